theorem dL_buyCloth_0 : decode cL_buyCloth 0 = .ok (.aload_n 3, 1) := by decide +kernel
theorem dL_buyCloth_1 : decode cL_buyCloth 1 = .ok (.iconst 0, 1) := by decide +kernel
theorem dL_buyCloth_2 : decode cL_buyCloth 2 = .ok (.aload_n 0, 1) := by decide +kernel
theorem dL_buyCloth_3 : decode cL_buyCloth 3 = .ok (.iload_n 1, 1) := by decide +kernel
theorem dL_buyCloth_4 : decode cL_buyCloth 4 = .ok (.iload_n 2, 1) := by decide +kernel
theorem dL_buyCloth_5 : decode cL_buyCloth 5 = .ok (.invokevirtual 7, 3) := by decide +kernel
theorem dL_buyCloth_8 : decode cL_buyCloth 8 = .ok (.i2l, 1) := by decide +kernel
theorem dL_buyCloth_9 : decode cL_buyCloth 9 = .ok (.lastore, 1) := by decide +kernel
theorem dL_buyCloth_10 : decode cL_buyCloth 10 = .ok (.goto 15, 3) := by decide +kernel
theorem dL_buyCloth_13 : decode cL_buyCloth 13 = .ok (.astore 4, 2) := by decide +kernel
theorem dL_buyCloth_15 : decode cL_buyCloth 15 = .ok (.iconst 1, 1) := by decide +kernel
theorem dL_buyCloth_16 : decode cL_buyCloth 16 = .ok (.ireturn, 1) := by decide +kernel
theorem dL_buyCloth_17 : decode cL_buyCloth 17 = .ok (.astore 4, 2) := by decide +kernel
theorem dL_buyCloth_19 : decode cL_buyCloth 19 = .ok (.iconst 2, 1) := by decide +kernel
theorem dL_buyCloth_20 : decode cL_buyCloth 20 = .ok (.ireturn, 1) := by decide +kernel
theorem dL_buyCloth_21 : decode cL_buyCloth 21 = .ok (.astore 4, 2) := by decide +kernel
theorem dL_buyCloth_23 : decode cL_buyCloth 23 = .ok (.iconst 3, 1) := by decide +kernel
theorem dL_buyCloth_24 : decode cL_buyCloth 24 = .ok (.ireturn, 1) := by decide +kernel
theorem dL_buyCloth_25 : decode cL_buyCloth 25 = .ok (.iconst 0, 1) := by decide +kernel
theorem dL_buyCloth_26 : decode cL_buyCloth 26 = .ok (.ireturn, 1) := by decide +kernel
theorem dL_addCustomer_0 : decode cL_addCustomer 0 = .ok (.aload_n 3, 1) := by decide +kernel
theorem dL_addCustomer_1 : decode cL_addCustomer 1 = .ok (.iconst 0, 1) := by decide +kernel
theorem dL_addCustomer_2 : decode cL_addCustomer 2 = .ok (.aload_n 0, 1) := by decide +kernel
theorem dL_addCustomer_3 : decode cL_addCustomer 3 = .ok (.iload_n 1, 1) := by decide +kernel
theorem dL_addCustomer_4 : decode cL_addCustomer 4 = .ok (.iload_n 2, 1) := by decide +kernel
theorem dL_addCustomer_5 : decode cL_addCustomer 5 = .ok (.invokevirtual 19, 3) := by decide +kernel
theorem dL_addCustomer_8 : decode cL_addCustomer 8 = .ok (.i2l, 1) := by decide +kernel
theorem dL_addCustomer_9 : decode cL_addCustomer 9 = .ok (.lastore, 1) := by decide +kernel
theorem dL_addCustomer_10 : decode cL_addCustomer 10 = .ok (.goto 11, 3) := by decide +kernel
theorem dL_addCustomer_13 : decode cL_addCustomer 13 = .ok (.astore 4, 2) := by decide +kernel
theorem dL_addCustomer_15 : decode cL_addCustomer 15 = .ok (.iconst 1, 1) := by decide +kernel
theorem dL_addCustomer_16 : decode cL_addCustomer 16 = .ok (.ireturn, 1) := by decide +kernel
theorem dL_addCustomer_17 : decode cL_addCustomer 17 = .ok (.astore 4, 2) := by decide +kernel
theorem dL_addCustomer_19 : decode cL_addCustomer 19 = .ok (.iconst 2, 1) := by decide +kernel
theorem dL_addCustomer_20 : decode cL_addCustomer 20 = .ok (.ireturn, 1) := by decide +kernel
theorem dL_addCustomer_21 : decode cL_addCustomer 21 = .ok (.iconst 0, 1) := by decide +kernel
theorem dL_addCustomer_22 : decode cL_addCustomer 22 = .ok (.ireturn, 1) := by decide +kernel
theorem dL_fit_0 : decode cL_fit 0 = .ok (.aload 4, 2) := by decide +kernel
theorem dL_fit_2 : decode cL_fit 2 = .ok (.iconst 0, 1) := by decide +kernel
theorem dL_fit_3 : decode cL_fit 3 = .ok (.aload_n 0, 1) := by decide +kernel
theorem dL_fit_4 : decode cL_fit 4 = .ok (.iload_n 1, 1) := by decide +kernel
theorem dL_fit_5 : decode cL_fit 5 = .ok (.iload_n 2, 1) := by decide +kernel
theorem dL_fit_6 : decode cL_fit 6 = .ok (.iload_n 3, 1) := by decide +kernel
theorem dL_fit_7 : decode cL_fit 7 = .ok (.invokevirtual 24, 3) := by decide +kernel
theorem dL_fit_10 : decode cL_fit 10 = .ok (.i2l, 1) := by decide +kernel
theorem dL_fit_11 : decode cL_fit 11 = .ok (.lastore, 1) := by decide +kernel
theorem dL_fit_12 : decode cL_fit 12 = .ok (.goto 11, 3) := by decide +kernel
theorem dL_fit_15 : decode cL_fit 15 = .ok (.astore 5, 2) := by decide +kernel
theorem dL_fit_17 : decode cL_fit 17 = .ok (.iconst 1, 1) := by decide +kernel
theorem dL_fit_18 : decode cL_fit 18 = .ok (.ireturn, 1) := by decide +kernel
theorem dL_fit_19 : decode cL_fit 19 = .ok (.astore 5, 2) := by decide +kernel
theorem dL_fit_21 : decode cL_fit 21 = .ok (.iconst 2, 1) := by decide +kernel
theorem dL_fit_22 : decode cL_fit 22 = .ok (.ireturn, 1) := by decide +kernel
theorem dL_fit_23 : decode cL_fit 23 = .ok (.iconst 0, 1) := by decide +kernel
theorem dL_fit_24 : decode cL_fit 24 = .ok (.ireturn, 1) := by decide +kernel
theorem dL_orderSuit_0 : decode cL_orderSuit 0 = .ok (.aload_n 3, 1) := by decide +kernel
theorem dL_orderSuit_1 : decode cL_orderSuit 1 = .ok (.iconst 0, 1) := by decide +kernel
theorem dL_orderSuit_2 : decode cL_orderSuit 2 = .ok (.aload_n 0, 1) := by decide +kernel
theorem dL_orderSuit_3 : decode cL_orderSuit 3 = .ok (.iload_n 1, 1) := by decide +kernel
theorem dL_orderSuit_4 : decode cL_orderSuit 4 = .ok (.iload_n 2, 1) := by decide +kernel
theorem dL_orderSuit_5 : decode cL_orderSuit 5 = .ok (.invokevirtual 28, 3) := by decide +kernel
theorem dL_orderSuit_8 : decode cL_orderSuit 8 = .ok (.i2l, 1) := by decide +kernel
theorem dL_orderSuit_9 : decode cL_orderSuit 9 = .ok (.lastore, 1) := by decide +kernel
theorem dL_orderSuit_10 : decode cL_orderSuit 10 = .ok (.goto 11, 3) := by decide +kernel
theorem dL_orderSuit_13 : decode cL_orderSuit 13 = .ok (.astore 4, 2) := by decide +kernel
theorem dL_orderSuit_15 : decode cL_orderSuit 15 = .ok (.iconst 1, 1) := by decide +kernel
theorem dL_orderSuit_16 : decode cL_orderSuit 16 = .ok (.ireturn, 1) := by decide +kernel
theorem dL_orderSuit_17 : decode cL_orderSuit 17 = .ok (.astore 4, 2) := by decide +kernel
theorem dL_orderSuit_19 : decode cL_orderSuit 19 = .ok (.iconst 2, 1) := by decide +kernel
theorem dL_orderSuit_20 : decode cL_orderSuit 20 = .ok (.ireturn, 1) := by decide +kernel
theorem dL_orderSuit_21 : decode cL_orderSuit 21 = .ok (.iconst 0, 1) := by decide +kernel
theorem dL_orderSuit_22 : decode cL_orderSuit 22 = .ok (.ireturn, 1) := by decide +kernel
theorem dL_cut_0 : decode cL_cut 0 = .ok (.aload_n 3, 1) := by decide +kernel
theorem dL_cut_1 : decode cL_cut 1 = .ok (.iconst 0, 1) := by decide +kernel
theorem dL_cut_2 : decode cL_cut 2 = .ok (.aload_n 0, 1) := by decide +kernel
theorem dL_cut_3 : decode cL_cut 3 = .ok (.iload_n 1, 1) := by decide +kernel
theorem dL_cut_4 : decode cL_cut 4 = .ok (.iload_n 2, 1) := by decide +kernel
theorem dL_cut_5 : decode cL_cut 5 = .ok (.invokevirtual 31, 3) := by decide +kernel
theorem dL_cut_8 : decode cL_cut 8 = .ok (.i2l, 1) := by decide +kernel
theorem dL_cut_9 : decode cL_cut 9 = .ok (.lastore, 1) := by decide +kernel
theorem dL_cut_10 : decode cL_cut 10 = .ok (.goto 19, 3) := by decide +kernel
theorem dL_cut_13 : decode cL_cut 13 = .ok (.astore 4, 2) := by decide +kernel
theorem dL_cut_15 : decode cL_cut 15 = .ok (.iconst 1, 1) := by decide +kernel
theorem dL_cut_16 : decode cL_cut 16 = .ok (.ireturn, 1) := by decide +kernel
theorem dL_cut_17 : decode cL_cut 17 = .ok (.astore 4, 2) := by decide +kernel
theorem dL_cut_19 : decode cL_cut 19 = .ok (.iconst 2, 1) := by decide +kernel
theorem dL_cut_20 : decode cL_cut 20 = .ok (.ireturn, 1) := by decide +kernel
theorem dL_cut_21 : decode cL_cut 21 = .ok (.astore 4, 2) := by decide +kernel
theorem dL_cut_23 : decode cL_cut 23 = .ok (.iconst 3, 1) := by decide +kernel
theorem dL_cut_24 : decode cL_cut 24 = .ok (.ireturn, 1) := by decide +kernel
theorem dL_cut_25 : decode cL_cut 25 = .ok (.astore 4, 2) := by decide +kernel
theorem dL_cut_27 : decode cL_cut 27 = .ok (.iconst 4, 1) := by decide +kernel
theorem dL_cut_28 : decode cL_cut 28 = .ok (.ireturn, 1) := by decide +kernel
theorem dL_cut_29 : decode cL_cut 29 = .ok (.iconst 0, 1) := by decide +kernel
theorem dL_cut_30 : decode cL_cut 30 = .ok (.ireturn, 1) := by decide +kernel
theorem dL_sew_0 : decode cL_sew 0 = .ok (.aload_n 3, 1) := by decide +kernel
theorem dL_sew_1 : decode cL_sew 1 = .ok (.iconst 0, 1) := by decide +kernel
theorem dL_sew_2 : decode cL_sew 2 = .ok (.aload_n 0, 1) := by decide +kernel
theorem dL_sew_3 : decode cL_sew 3 = .ok (.iload_n 1, 1) := by decide +kernel
theorem dL_sew_4 : decode cL_sew 4 = .ok (.iload_n 2, 1) := by decide +kernel
theorem dL_sew_5 : decode cL_sew 5 = .ok (.invokevirtual 36, 3) := by decide +kernel
theorem dL_sew_8 : decode cL_sew 8 = .ok (.i2l, 1) := by decide +kernel
theorem dL_sew_9 : decode cL_sew 9 = .ok (.lastore, 1) := by decide +kernel
theorem dL_sew_10 : decode cL_sew 10 = .ok (.goto 19, 3) := by decide +kernel
theorem dL_sew_13 : decode cL_sew 13 = .ok (.astore 4, 2) := by decide +kernel
theorem dL_sew_15 : decode cL_sew 15 = .ok (.iconst 1, 1) := by decide +kernel
theorem dL_sew_16 : decode cL_sew 16 = .ok (.ireturn, 1) := by decide +kernel
theorem dL_sew_17 : decode cL_sew 17 = .ok (.astore 4, 2) := by decide +kernel
theorem dL_sew_19 : decode cL_sew 19 = .ok (.iconst 2, 1) := by decide +kernel
theorem dL_sew_20 : decode cL_sew 20 = .ok (.ireturn, 1) := by decide +kernel
theorem dL_sew_21 : decode cL_sew 21 = .ok (.astore 4, 2) := by decide +kernel
theorem dL_sew_23 : decode cL_sew 23 = .ok (.iconst 3, 1) := by decide +kernel
theorem dL_sew_24 : decode cL_sew 24 = .ok (.ireturn, 1) := by decide +kernel
theorem dL_sew_25 : decode cL_sew 25 = .ok (.astore 4, 2) := by decide +kernel
theorem dL_sew_27 : decode cL_sew 27 = .ok (.iconst 4, 1) := by decide +kernel
theorem dL_sew_28 : decode cL_sew 28 = .ok (.ireturn, 1) := by decide +kernel
theorem dL_sew_29 : decode cL_sew 29 = .ok (.iconst 0, 1) := by decide +kernel
theorem dL_sew_30 : decode cL_sew 30 = .ok (.ireturn, 1) := by decide +kernel
theorem dL_unpick_0 : decode cL_unpick 0 = .ok (.aload_n 3, 1) := by decide +kernel
theorem dL_unpick_1 : decode cL_unpick 1 = .ok (.iconst 0, 1) := by decide +kernel
theorem dL_unpick_2 : decode cL_unpick 2 = .ok (.aload_n 0, 1) := by decide +kernel
theorem dL_unpick_3 : decode cL_unpick 3 = .ok (.iload_n 1, 1) := by decide +kernel
theorem dL_unpick_4 : decode cL_unpick 4 = .ok (.iload_n 2, 1) := by decide +kernel
theorem dL_unpick_5 : decode cL_unpick 5 = .ok (.invokevirtual 39, 3) := by decide +kernel
theorem dL_unpick_8 : decode cL_unpick 8 = .ok (.i2l, 1) := by decide +kernel
theorem dL_unpick_9 : decode cL_unpick 9 = .ok (.lastore, 1) := by decide +kernel
theorem dL_unpick_10 : decode cL_unpick 10 = .ok (.goto 19, 3) := by decide +kernel
theorem dL_unpick_13 : decode cL_unpick 13 = .ok (.astore 4, 2) := by decide +kernel
theorem dL_unpick_15 : decode cL_unpick 15 = .ok (.iconst 1, 1) := by decide +kernel
theorem dL_unpick_16 : decode cL_unpick 16 = .ok (.ireturn, 1) := by decide +kernel
theorem dL_unpick_17 : decode cL_unpick 17 = .ok (.astore 4, 2) := by decide +kernel
theorem dL_unpick_19 : decode cL_unpick 19 = .ok (.iconst 2, 1) := by decide +kernel
theorem dL_unpick_20 : decode cL_unpick 20 = .ok (.ireturn, 1) := by decide +kernel
theorem dL_unpick_21 : decode cL_unpick 21 = .ok (.astore 4, 2) := by decide +kernel
theorem dL_unpick_23 : decode cL_unpick 23 = .ok (.iconst 3, 1) := by decide +kernel
theorem dL_unpick_24 : decode cL_unpick 24 = .ok (.ireturn, 1) := by decide +kernel
theorem dL_unpick_25 : decode cL_unpick 25 = .ok (.astore 4, 2) := by decide +kernel
theorem dL_unpick_27 : decode cL_unpick 27 = .ok (.iconst 4, 1) := by decide +kernel
theorem dL_unpick_28 : decode cL_unpick 28 = .ok (.ireturn, 1) := by decide +kernel
theorem dL_unpick_29 : decode cL_unpick 29 = .ok (.iconst 0, 1) := by decide +kernel
theorem dL_unpick_30 : decode cL_unpick 30 = .ok (.ireturn, 1) := by decide +kernel
theorem dL_demand_0 : decode cL_demand 0 = .ok (.aload 4, 2) := by decide +kernel
theorem dL_demand_2 : decode cL_demand 2 = .ok (.iconst 0, 1) := by decide +kernel
theorem dL_demand_3 : decode cL_demand 3 = .ok (.aload_n 0, 1) := by decide +kernel
theorem dL_demand_4 : decode cL_demand 4 = .ok (.iload_n 1, 1) := by decide +kernel
theorem dL_demand_5 : decode cL_demand 5 = .ok (.iload_n 2, 1) := by decide +kernel
theorem dL_demand_6 : decode cL_demand 6 = .ok (.iload_n 3, 1) := by decide +kernel
theorem dL_demand_7 : decode cL_demand 7 = .ok (.invokevirtual 42, 3) := by decide +kernel
theorem dL_demand_10 : decode cL_demand 10 = .ok (.i2l, 1) := by decide +kernel
theorem dL_demand_11 : decode cL_demand 11 = .ok (.lastore, 1) := by decide +kernel
theorem dL_demand_12 : decode cL_demand 12 = .ok (.goto 23, 3) := by decide +kernel
theorem dL_demand_15 : decode cL_demand 15 = .ok (.astore 5, 2) := by decide +kernel
theorem dL_demand_17 : decode cL_demand 17 = .ok (.iconst 1, 1) := by decide +kernel
theorem dL_demand_18 : decode cL_demand 18 = .ok (.ireturn, 1) := by decide +kernel
theorem dL_demand_19 : decode cL_demand 19 = .ok (.astore 5, 2) := by decide +kernel
theorem dL_demand_21 : decode cL_demand 21 = .ok (.iconst 2, 1) := by decide +kernel
theorem dL_demand_22 : decode cL_demand 22 = .ok (.ireturn, 1) := by decide +kernel
theorem dL_demand_23 : decode cL_demand 23 = .ok (.astore 5, 2) := by decide +kernel
theorem dL_demand_25 : decode cL_demand 25 = .ok (.iconst 3, 1) := by decide +kernel
theorem dL_demand_26 : decode cL_demand 26 = .ok (.ireturn, 1) := by decide +kernel
theorem dL_demand_27 : decode cL_demand 27 = .ok (.astore 5, 2) := by decide +kernel
theorem dL_demand_29 : decode cL_demand 29 = .ok (.iconst 4, 1) := by decide +kernel
theorem dL_demand_30 : decode cL_demand 30 = .ok (.ireturn, 1) := by decide +kernel
theorem dL_demand_31 : decode cL_demand 31 = .ok (.astore 5, 2) := by decide +kernel
theorem dL_demand_33 : decode cL_demand 33 = .ok (.iconst 5, 1) := by decide +kernel
theorem dL_demand_34 : decode cL_demand 34 = .ok (.ireturn, 1) := by decide +kernel
theorem dL_demand_35 : decode cL_demand 35 = .ok (.iconst 0, 1) := by decide +kernel
theorem dL_demand_36 : decode cL_demand 36 = .ok (.ireturn, 1) := by decide +kernel
theorem dL_deliver_0 : decode cL_deliver 0 = .ok (.aload_n 2, 1) := by decide +kernel
theorem dL_deliver_1 : decode cL_deliver 1 = .ok (.iconst 0, 1) := by decide +kernel
theorem dL_deliver_2 : decode cL_deliver 2 = .ok (.aload_n 0, 1) := by decide +kernel
theorem dL_deliver_3 : decode cL_deliver 3 = .ok (.iload_n 1, 1) := by decide +kernel
theorem dL_deliver_4 : decode cL_deliver 4 = .ok (.invokevirtual 45, 3) := by decide +kernel
theorem dL_deliver_7 : decode cL_deliver 7 = .ok (.i2l, 1) := by decide +kernel
theorem dL_deliver_8 : decode cL_deliver 8 = .ok (.lastore, 1) := by decide +kernel
theorem dL_deliver_9 : decode cL_deliver 9 = .ok (.goto 9, 3) := by decide +kernel
theorem dL_deliver_12 : decode cL_deliver 12 = .ok (.astore_n 3, 1) := by decide +kernel
theorem dL_deliver_13 : decode cL_deliver 13 = .ok (.iconst 1, 1) := by decide +kernel
theorem dL_deliver_14 : decode cL_deliver 14 = .ok (.ireturn, 1) := by decide +kernel
theorem dL_deliver_15 : decode cL_deliver 15 = .ok (.astore_n 3, 1) := by decide +kernel
theorem dL_deliver_16 : decode cL_deliver 16 = .ok (.iconst 2, 1) := by decide +kernel
theorem dL_deliver_17 : decode cL_deliver 17 = .ok (.ireturn, 1) := by decide +kernel
theorem dL_deliver_18 : decode cL_deliver 18 = .ok (.iconst 0, 1) := by decide +kernel
theorem dL_deliver_19 : decode cL_deliver 19 = .ok (.ireturn, 1) := by decide +kernel
theorem dL_scrap_0 : decode cL_scrap 0 = .ok (.aload_n 2, 1) := by decide +kernel
theorem dL_scrap_1 : decode cL_scrap 1 = .ok (.iconst 0, 1) := by decide +kernel
theorem dL_scrap_2 : decode cL_scrap 2 = .ok (.aload_n 0, 1) := by decide +kernel
theorem dL_scrap_3 : decode cL_scrap 3 = .ok (.iload_n 1, 1) := by decide +kernel
theorem dL_scrap_4 : decode cL_scrap 4 = .ok (.invokevirtual 49, 3) := by decide +kernel
theorem dL_scrap_7 : decode cL_scrap 7 = .ok (.i2l, 1) := by decide +kernel
theorem dL_scrap_8 : decode cL_scrap 8 = .ok (.lastore, 1) := by decide +kernel
theorem dL_scrap_9 : decode cL_scrap 9 = .ok (.goto 6, 3) := by decide +kernel
theorem dL_scrap_12 : decode cL_scrap 12 = .ok (.astore_n 3, 1) := by decide +kernel
theorem dL_scrap_13 : decode cL_scrap 13 = .ok (.iconst 1, 1) := by decide +kernel
theorem dL_scrap_14 : decode cL_scrap 14 = .ok (.ireturn, 1) := by decide +kernel
theorem dL_scrap_15 : decode cL_scrap 15 = .ok (.iconst 0, 1) := by decide +kernel
theorem dL_scrap_16 : decode cL_scrap 16 = .ok (.ireturn, 1) := by decide +kernel
theorem dL_stock_0 : decode cL_stock 0 = .ok (.aload_n 2, 1) := by decide +kernel
theorem dL_stock_1 : decode cL_stock 1 = .ok (.iconst 0, 1) := by decide +kernel
theorem dL_stock_2 : decode cL_stock 2 = .ok (.aload_n 0, 1) := by decide +kernel
theorem dL_stock_3 : decode cL_stock 3 = .ok (.iload_n 1, 1) := by decide +kernel
theorem dL_stock_4 : decode cL_stock 4 = .ok (.invokevirtual 52, 3) := by decide +kernel
theorem dL_stock_7 : decode cL_stock 7 = .ok (.i2l, 1) := by decide +kernel
theorem dL_stock_8 : decode cL_stock 8 = .ok (.lastore, 1) := by decide +kernel
theorem dL_stock_9 : decode cL_stock 9 = .ok (.goto 6, 3) := by decide +kernel
theorem dL_stock_12 : decode cL_stock 12 = .ok (.astore_n 3, 1) := by decide +kernel
theorem dL_stock_13 : decode cL_stock 13 = .ok (.iconst 1, 1) := by decide +kernel
theorem dL_stock_14 : decode cL_stock 14 = .ok (.ireturn, 1) := by decide +kernel
theorem dL_stock_15 : decode cL_stock 15 = .ok (.iconst 0, 1) := by decide +kernel
theorem dL_stock_16 : decode cL_stock 16 = .ok (.ireturn, 1) := by decide +kernel
theorem dL_pairs_0 : decode cL_pairs 0 = .ok (.aload_n 2, 1) := by decide +kernel
theorem dL_pairs_1 : decode cL_pairs 1 = .ok (.iconst 0, 1) := by decide +kernel
theorem dL_pairs_2 : decode cL_pairs 2 = .ok (.aload_n 0, 1) := by decide +kernel
theorem dL_pairs_3 : decode cL_pairs 3 = .ok (.iload_n 1, 1) := by decide +kernel
theorem dL_pairs_4 : decode cL_pairs 4 = .ok (.invokevirtual 55, 3) := by decide +kernel
theorem dL_pairs_7 : decode cL_pairs 7 = .ok (.i2l, 1) := by decide +kernel
theorem dL_pairs_8 : decode cL_pairs 8 = .ok (.lastore, 1) := by decide +kernel
theorem dL_pairs_9 : decode cL_pairs 9 = .ok (.goto 6, 3) := by decide +kernel
theorem dL_pairs_12 : decode cL_pairs 12 = .ok (.astore_n 3, 1) := by decide +kernel
theorem dL_pairs_13 : decode cL_pairs 13 = .ok (.iconst 1, 1) := by decide +kernel
theorem dL_pairs_14 : decode cL_pairs 14 = .ok (.ireturn, 1) := by decide +kernel
theorem dL_pairs_15 : decode cL_pairs 15 = .ok (.iconst 0, 1) := by decide +kernel
theorem dL_pairs_16 : decode cL_pairs 16 = .ok (.ireturn, 1) := by decide +kernel
theorem dL_legLength_0 : decode cL_legLength 0 = .ok (.aload_n 3, 1) := by decide +kernel
theorem dL_legLength_1 : decode cL_legLength 1 = .ok (.iconst 0, 1) := by decide +kernel
theorem dL_legLength_2 : decode cL_legLength 2 = .ok (.aload_n 0, 1) := by decide +kernel
theorem dL_legLength_3 : decode cL_legLength 3 = .ok (.iload_n 1, 1) := by decide +kernel
theorem dL_legLength_4 : decode cL_legLength 4 = .ok (.iload_n 2, 1) := by decide +kernel
theorem dL_legLength_5 : decode cL_legLength 5 = .ok (.invokevirtual 58, 3) := by decide +kernel
theorem dL_legLength_8 : decode cL_legLength 8 = .ok (.i2l, 1) := by decide +kernel
theorem dL_legLength_9 : decode cL_legLength 9 = .ok (.lastore, 1) := by decide +kernel
theorem dL_legLength_10 : decode cL_legLength 10 = .ok (.goto 7, 3) := by decide +kernel
theorem dL_legLength_13 : decode cL_legLength 13 = .ok (.astore 4, 2) := by decide +kernel
theorem dL_legLength_15 : decode cL_legLength 15 = .ok (.iconst 1, 1) := by decide +kernel
theorem dL_legLength_16 : decode cL_legLength 16 = .ok (.ireturn, 1) := by decide +kernel
theorem dL_legLength_17 : decode cL_legLength 17 = .ok (.iconst 0, 1) := by decide +kernel
theorem dL_legLength_18 : decode cL_legLength 18 = .ok (.ireturn, 1) := by decide +kernel
theorem dL_mirrorLeg_0 : decode cL_mirrorLeg 0 = .ok (.aload_n 3, 1) := by decide +kernel
theorem dL_mirrorLeg_1 : decode cL_mirrorLeg 1 = .ok (.iconst 0, 1) := by decide +kernel
theorem dL_mirrorLeg_2 : decode cL_mirrorLeg 2 = .ok (.aload_n 0, 1) := by decide +kernel
theorem dL_mirrorLeg_3 : decode cL_mirrorLeg 3 = .ok (.iload_n 1, 1) := by decide +kernel
theorem dL_mirrorLeg_4 : decode cL_mirrorLeg 4 = .ok (.iload_n 2, 1) := by decide +kernel
theorem dL_mirrorLeg_5 : decode cL_mirrorLeg 5 = .ok (.invokevirtual 61, 3) := by decide +kernel
theorem dL_mirrorLeg_8 : decode cL_mirrorLeg 8 = .ok (.i2l, 1) := by decide +kernel
theorem dL_mirrorLeg_9 : decode cL_mirrorLeg 9 = .ok (.lastore, 1) := by decide +kernel
theorem dL_mirrorLeg_10 : decode cL_mirrorLeg 10 = .ok (.goto 7, 3) := by decide +kernel
theorem dL_mirrorLeg_13 : decode cL_mirrorLeg 13 = .ok (.astore 4, 2) := by decide +kernel
theorem dL_mirrorLeg_15 : decode cL_mirrorLeg 15 = .ok (.iconst 1, 1) := by decide +kernel
theorem dL_mirrorLeg_16 : decode cL_mirrorLeg 16 = .ok (.ireturn, 1) := by decide +kernel
theorem dL_mirrorLeg_17 : decode cL_mirrorLeg 17 = .ok (.iconst 0, 1) := by decide +kernel
theorem dL_mirrorLeg_18 : decode cL_mirrorLeg 18 = .ok (.ireturn, 1) := by decide +kernel
theorem dL_isMirrored_0 : decode cL_isMirrored 0 = .ok (.aload_n 2, 1) := by decide +kernel
theorem dL_isMirrored_1 : decode cL_isMirrored 1 = .ok (.iconst 0, 1) := by decide +kernel
theorem dL_isMirrored_2 : decode cL_isMirrored 2 = .ok (.aload_n 0, 1) := by decide +kernel
theorem dL_isMirrored_3 : decode cL_isMirrored 3 = .ok (.iload_n 1, 1) := by decide +kernel
theorem dL_isMirrored_4 : decode cL_isMirrored 4 = .ok (.invokevirtual 64, 3) := by decide +kernel
theorem dL_isMirrored_7 : decode cL_isMirrored 7 = .ok (.ifCond .eq 7, 3) := by decide +kernel
theorem dL_isMirrored_10 : decode cL_isMirrored 10 = .ok (.lconst 1, 1) := by decide +kernel
theorem dL_isMirrored_11 : decode cL_isMirrored 11 = .ok (.goto 4, 3) := by decide +kernel
theorem dL_isMirrored_14 : decode cL_isMirrored 14 = .ok (.lconst 0, 1) := by decide +kernel
theorem dL_isMirrored_15 : decode cL_isMirrored 15 = .ok (.lastore, 1) := by decide +kernel
theorem dL_isMirrored_16 : decode cL_isMirrored 16 = .ok (.goto 6, 3) := by decide +kernel
theorem dL_isMirrored_19 : decode cL_isMirrored 19 = .ok (.astore_n 3, 1) := by decide +kernel
theorem dL_isMirrored_20 : decode cL_isMirrored 20 = .ok (.iconst 1, 1) := by decide +kernel
theorem dL_isMirrored_21 : decode cL_isMirrored 21 = .ok (.ireturn, 1) := by decide +kernel
theorem dL_isMirrored_22 : decode cL_isMirrored 22 = .ok (.iconst 0, 1) := by decide +kernel
theorem dL_isMirrored_23 : decode cL_isMirrored 23 = .ok (.ireturn, 1) := by decide +kernel
theorem dL_customerByLegs_0 : decode cL_customerByLegs 0 = .ok (.aload_n 2, 1) := by decide +kernel
theorem dL_customerByLegs_1 : decode cL_customerByLegs 1 = .ok (.iconst 0, 1) := by decide +kernel
theorem dL_customerByLegs_2 : decode cL_customerByLegs 2 = .ok (.aload_n 0, 1) := by decide +kernel
theorem dL_customerByLegs_3 : decode cL_customerByLegs 3 = .ok (.iload_n 1, 1) := by decide +kernel
theorem dL_customerByLegs_4 : decode cL_customerByLegs 4 = .ok (.invokevirtual 68, 3) := by decide +kernel
theorem dL_customerByLegs_7 : decode cL_customerByLegs 7 = .ok (.i2l, 1) := by decide +kernel
theorem dL_customerByLegs_8 : decode cL_customerByLegs 8 = .ok (.lastore, 1) := by decide +kernel
theorem dL_customerByLegs_9 : decode cL_customerByLegs 9 = .ok (.goto 6, 3) := by decide +kernel
theorem dL_customerByLegs_12 : decode cL_customerByLegs 12 = .ok (.astore_n 3, 1) := by decide +kernel
theorem dL_customerByLegs_13 : decode cL_customerByLegs 13 = .ok (.iconst 1, 1) := by decide +kernel
theorem dL_customerByLegs_14 : decode cL_customerByLegs 14 = .ok (.ireturn, 1) := by decide +kernel
theorem dL_customerByLegs_15 : decode cL_customerByLegs 15 = .ok (.iconst 0, 1) := by decide +kernel
theorem dL_customerByLegs_16 : decode cL_customerByLegs 16 = .ok (.ireturn, 1) := by decide +kernel
theorem dL_suitAt_0 : decode cL_suitAt 0 = .ok (.aload_n 2, 1) := by decide +kernel
theorem dL_suitAt_1 : decode cL_suitAt 1 = .ok (.iconst 0, 1) := by decide +kernel
theorem dL_suitAt_2 : decode cL_suitAt 2 = .ok (.aload_n 0, 1) := by decide +kernel
theorem dL_suitAt_3 : decode cL_suitAt 3 = .ok (.iload_n 1, 1) := by decide +kernel
theorem dL_suitAt_4 : decode cL_suitAt 4 = .ok (.invokevirtual 71, 3) := by decide +kernel
theorem dL_suitAt_7 : decode cL_suitAt 7 = .ok (.i2l, 1) := by decide +kernel
theorem dL_suitAt_8 : decode cL_suitAt 8 = .ok (.lastore, 1) := by decide +kernel
theorem dL_suitAt_9 : decode cL_suitAt 9 = .ok (.goto 6, 3) := by decide +kernel
theorem dL_suitAt_12 : decode cL_suitAt 12 = .ok (.astore_n 3, 1) := by decide +kernel
theorem dL_suitAt_13 : decode cL_suitAt 13 = .ok (.iconst 1, 1) := by decide +kernel
theorem dL_suitAt_14 : decode cL_suitAt 14 = .ok (.ireturn, 1) := by decide +kernel
theorem dL_suitAt_15 : decode cL_suitAt 15 = .ok (.iconst 0, 1) := by decide +kernel
theorem dL_suitAt_16 : decode cL_suitAt 16 = .ok (.ireturn, 1) := by decide +kernel
theorem dL_customerOf_0 : decode cL_customerOf 0 = .ok (.aload_n 2, 1) := by decide +kernel
theorem dL_customerOf_1 : decode cL_customerOf 1 = .ok (.iconst 0, 1) := by decide +kernel
theorem dL_customerOf_2 : decode cL_customerOf 2 = .ok (.aload_n 0, 1) := by decide +kernel
theorem dL_customerOf_3 : decode cL_customerOf 3 = .ok (.iload_n 1, 1) := by decide +kernel
theorem dL_customerOf_4 : decode cL_customerOf 4 = .ok (.invokevirtual 74, 3) := by decide +kernel
theorem dL_customerOf_7 : decode cL_customerOf 7 = .ok (.i2l, 1) := by decide +kernel
theorem dL_customerOf_8 : decode cL_customerOf 8 = .ok (.lastore, 1) := by decide +kernel
theorem dL_customerOf_9 : decode cL_customerOf 9 = .ok (.goto 6, 3) := by decide +kernel
theorem dL_customerOf_12 : decode cL_customerOf 12 = .ok (.astore_n 3, 1) := by decide +kernel
theorem dL_customerOf_13 : decode cL_customerOf 13 = .ok (.iconst 1, 1) := by decide +kernel
theorem dL_customerOf_14 : decode cL_customerOf 14 = .ok (.ireturn, 1) := by decide +kernel
theorem dL_customerOf_15 : decode cL_customerOf 15 = .ok (.iconst 0, 1) := by decide +kernel
theorem dL_customerOf_16 : decode cL_customerOf 16 = .ok (.ireturn, 1) := by decide +kernel
theorem dL_clothOf_0 : decode cL_clothOf 0 = .ok (.aload_n 2, 1) := by decide +kernel
theorem dL_clothOf_1 : decode cL_clothOf 1 = .ok (.iconst 0, 1) := by decide +kernel
theorem dL_clothOf_2 : decode cL_clothOf 2 = .ok (.aload_n 0, 1) := by decide +kernel
theorem dL_clothOf_3 : decode cL_clothOf 3 = .ok (.iload_n 1, 1) := by decide +kernel
theorem dL_clothOf_4 : decode cL_clothOf 4 = .ok (.invokevirtual 77, 3) := by decide +kernel
theorem dL_clothOf_7 : decode cL_clothOf 7 = .ok (.i2l, 1) := by decide +kernel
theorem dL_clothOf_8 : decode cL_clothOf 8 = .ok (.lastore, 1) := by decide +kernel
theorem dL_clothOf_9 : decode cL_clothOf 9 = .ok (.goto 6, 3) := by decide +kernel
theorem dL_clothOf_12 : decode cL_clothOf 12 = .ok (.astore_n 3, 1) := by decide +kernel
theorem dL_clothOf_13 : decode cL_clothOf 13 = .ok (.iconst 1, 1) := by decide +kernel
theorem dL_clothOf_14 : decode cL_clothOf 14 = .ok (.ireturn, 1) := by decide +kernel
theorem dL_clothOf_15 : decode cL_clothOf 15 = .ok (.iconst 0, 1) := by decide +kernel
theorem dL_clothOf_16 : decode cL_clothOf 16 = .ok (.ireturn, 1) := by decide +kernel
theorem dL_sleeveState_0 : decode cL_sleeveState 0 = .ok (.aload_n 3, 1) := by decide +kernel
theorem dL_sleeveState_1 : decode cL_sleeveState 1 = .ok (.iconst 0, 1) := by decide +kernel
theorem dL_sleeveState_2 : decode cL_sleeveState 2 = .ok (.aload_n 0, 1) := by decide +kernel
theorem dL_sleeveState_3 : decode cL_sleeveState 3 = .ok (.iload_n 1, 1) := by decide +kernel
theorem dL_sleeveState_4 : decode cL_sleeveState 4 = .ok (.iload_n 2, 1) := by decide +kernel
theorem dL_sleeveState_5 : decode cL_sleeveState 5 = .ok (.invokevirtual 80, 3) := by decide +kernel
theorem dL_sleeveState_8 : decode cL_sleeveState 8 = .ok (.i2l, 1) := by decide +kernel
theorem dL_sleeveState_9 : decode cL_sleeveState 9 = .ok (.lastore, 1) := by decide +kernel
theorem dL_sleeveState_10 : decode cL_sleeveState 10 = .ok (.goto 11, 3) := by decide +kernel
theorem dL_sleeveState_13 : decode cL_sleeveState 13 = .ok (.astore 4, 2) := by decide +kernel
theorem dL_sleeveState_15 : decode cL_sleeveState 15 = .ok (.iconst 1, 1) := by decide +kernel
theorem dL_sleeveState_16 : decode cL_sleeveState 16 = .ok (.ireturn, 1) := by decide +kernel
theorem dL_sleeveState_17 : decode cL_sleeveState 17 = .ok (.astore 4, 2) := by decide +kernel
theorem dL_sleeveState_19 : decode cL_sleeveState 19 = .ok (.iconst 2, 1) := by decide +kernel
theorem dL_sleeveState_20 : decode cL_sleeveState 20 = .ok (.ireturn, 1) := by decide +kernel
theorem dL_sleeveState_21 : decode cL_sleeveState 21 = .ok (.iconst 0, 1) := by decide +kernel
theorem dL_sleeveState_22 : decode cL_sleeveState 22 = .ok (.ireturn, 1) := by decide +kernel
theorem dL_sleeveLength_0 : decode cL_sleeveLength 0 = .ok (.aload_n 3, 1) := by decide +kernel
theorem dL_sleeveLength_1 : decode cL_sleeveLength 1 = .ok (.iconst 0, 1) := by decide +kernel
theorem dL_sleeveLength_2 : decode cL_sleeveLength 2 = .ok (.aload_n 0, 1) := by decide +kernel
theorem dL_sleeveLength_3 : decode cL_sleeveLength 3 = .ok (.iload_n 1, 1) := by decide +kernel
theorem dL_sleeveLength_4 : decode cL_sleeveLength 4 = .ok (.iload_n 2, 1) := by decide +kernel
theorem dL_sleeveLength_5 : decode cL_sleeveLength 5 = .ok (.invokevirtual 84, 3) := by decide +kernel
theorem dL_sleeveLength_8 : decode cL_sleeveLength 8 = .ok (.i2l, 1) := by decide +kernel
theorem dL_sleeveLength_9 : decode cL_sleeveLength 9 = .ok (.lastore, 1) := by decide +kernel
theorem dL_sleeveLength_10 : decode cL_sleeveLength 10 = .ok (.goto 15, 3) := by decide +kernel
theorem dL_sleeveLength_13 : decode cL_sleeveLength 13 = .ok (.astore 4, 2) := by decide +kernel
theorem dL_sleeveLength_15 : decode cL_sleeveLength 15 = .ok (.iconst 1, 1) := by decide +kernel
theorem dL_sleeveLength_16 : decode cL_sleeveLength 16 = .ok (.ireturn, 1) := by decide +kernel
theorem dL_sleeveLength_17 : decode cL_sleeveLength 17 = .ok (.astore 4, 2) := by decide +kernel
theorem dL_sleeveLength_19 : decode cL_sleeveLength 19 = .ok (.iconst 2, 1) := by decide +kernel
theorem dL_sleeveLength_20 : decode cL_sleeveLength 20 = .ok (.ireturn, 1) := by decide +kernel
theorem dL_sleeveLength_21 : decode cL_sleeveLength 21 = .ok (.astore 4, 2) := by decide +kernel
theorem dL_sleeveLength_23 : decode cL_sleeveLength 23 = .ok (.iconst 3, 1) := by decide +kernel
theorem dL_sleeveLength_24 : decode cL_sleeveLength 24 = .ok (.ireturn, 1) := by decide +kernel
theorem dL_sleeveLength_25 : decode cL_sleeveLength 25 = .ok (.iconst 0, 1) := by decide +kernel
theorem dL_sleeveLength_26 : decode cL_sleeveLength 26 = .ok (.ireturn, 1) := by decide +kernel
theorem dL_doesFit_0 : decode cL_doesFit 0 = .ok (.aload_n 3, 1) := by decide +kernel
theorem dL_doesFit_1 : decode cL_doesFit 1 = .ok (.iconst 0, 1) := by decide +kernel
theorem dL_doesFit_2 : decode cL_doesFit 2 = .ok (.aload_n 0, 1) := by decide +kernel
theorem dL_doesFit_3 : decode cL_doesFit 3 = .ok (.iload_n 1, 1) := by decide +kernel
theorem dL_doesFit_4 : decode cL_doesFit 4 = .ok (.iload_n 2, 1) := by decide +kernel
theorem dL_doesFit_5 : decode cL_doesFit 5 = .ok (.invokevirtual 87, 3) := by decide +kernel
theorem dL_doesFit_8 : decode cL_doesFit 8 = .ok (.ifCond .eq 7, 3) := by decide +kernel
theorem dL_doesFit_11 : decode cL_doesFit 11 = .ok (.lconst 1, 1) := by decide +kernel
theorem dL_doesFit_12 : decode cL_doesFit 12 = .ok (.goto 4, 3) := by decide +kernel
theorem dL_doesFit_15 : decode cL_doesFit 15 = .ok (.lconst 0, 1) := by decide +kernel
theorem dL_doesFit_16 : decode cL_doesFit 16 = .ok (.lastore, 1) := by decide +kernel
theorem dL_doesFit_17 : decode cL_doesFit 17 = .ok (.goto 15, 3) := by decide +kernel
theorem dL_doesFit_20 : decode cL_doesFit 20 = .ok (.astore 4, 2) := by decide +kernel
theorem dL_doesFit_22 : decode cL_doesFit 22 = .ok (.iconst 1, 1) := by decide +kernel
theorem dL_doesFit_23 : decode cL_doesFit 23 = .ok (.ireturn, 1) := by decide +kernel
theorem dL_doesFit_24 : decode cL_doesFit 24 = .ok (.astore 4, 2) := by decide +kernel
theorem dL_doesFit_26 : decode cL_doesFit 26 = .ok (.iconst 2, 1) := by decide +kernel
theorem dL_doesFit_27 : decode cL_doesFit 27 = .ok (.ireturn, 1) := by decide +kernel
theorem dL_doesFit_28 : decode cL_doesFit 28 = .ok (.astore 4, 2) := by decide +kernel
theorem dL_doesFit_30 : decode cL_doesFit 30 = .ok (.iconst 3, 1) := by decide +kernel
theorem dL_doesFit_31 : decode cL_doesFit 31 = .ok (.ireturn, 1) := by decide +kernel
theorem dL_doesFit_32 : decode cL_doesFit 32 = .ok (.iconst 0, 1) := by decide +kernel
theorem dL_doesFit_33 : decode cL_doesFit 33 = .ok (.ireturn, 1) := by decide +kernel
theorem dL_sewnSleeves_0 : decode cL_sewnSleeves 0 = .ok (.aload_n 2, 1) := by decide +kernel
theorem dL_sewnSleeves_1 : decode cL_sewnSleeves 1 = .ok (.iconst 0, 1) := by decide +kernel
theorem dL_sewnSleeves_2 : decode cL_sewnSleeves 2 = .ok (.aload_n 0, 1) := by decide +kernel
theorem dL_sewnSleeves_3 : decode cL_sewnSleeves 3 = .ok (.iload_n 1, 1) := by decide +kernel
theorem dL_sewnSleeves_4 : decode cL_sewnSleeves 4 = .ok (.invokevirtual 91, 3) := by decide +kernel
theorem dL_sewnSleeves_7 : decode cL_sewnSleeves 7 = .ok (.i2l, 1) := by decide +kernel
theorem dL_sewnSleeves_8 : decode cL_sewnSleeves 8 = .ok (.lastore, 1) := by decide +kernel
theorem dL_sewnSleeves_9 : decode cL_sewnSleeves 9 = .ok (.goto 6, 3) := by decide +kernel
theorem dL_sewnSleeves_12 : decode cL_sewnSleeves 12 = .ok (.astore_n 3, 1) := by decide +kernel
theorem dL_sewnSleeves_13 : decode cL_sewnSleeves 13 = .ok (.iconst 1, 1) := by decide +kernel
theorem dL_sewnSleeves_14 : decode cL_sewnSleeves 14 = .ok (.ireturn, 1) := by decide +kernel
theorem dL_sewnSleeves_15 : decode cL_sewnSleeves 15 = .ok (.iconst 0, 1) := by decide +kernel
theorem dL_sewnSleeves_16 : decode cL_sewnSleeves 16 = .ok (.ireturn, 1) := by decide +kernel
theorem dL_demandCount_0 : decode cL_demandCount 0 = .ok (.aload_n 2, 1) := by decide +kernel
theorem dL_demandCount_1 : decode cL_demandCount 1 = .ok (.iconst 0, 1) := by decide +kernel
theorem dL_demandCount_2 : decode cL_demandCount 2 = .ok (.aload_n 0, 1) := by decide +kernel
theorem dL_demandCount_3 : decode cL_demandCount 3 = .ok (.iload_n 1, 1) := by decide +kernel
theorem dL_demandCount_4 : decode cL_demandCount 4 = .ok (.invokevirtual 94, 3) := by decide +kernel
theorem dL_demandCount_7 : decode cL_demandCount 7 = .ok (.i2l, 1) := by decide +kernel
theorem dL_demandCount_8 : decode cL_demandCount 8 = .ok (.lastore, 1) := by decide +kernel
theorem dL_demandCount_9 : decode cL_demandCount 9 = .ok (.goto 6, 3) := by decide +kernel
theorem dL_demandCount_12 : decode cL_demandCount 12 = .ok (.astore_n 3, 1) := by decide +kernel
theorem dL_demandCount_13 : decode cL_demandCount 13 = .ok (.iconst 1, 1) := by decide +kernel
theorem dL_demandCount_14 : decode cL_demandCount 14 = .ok (.ireturn, 1) := by decide +kernel
theorem dL_demandCount_15 : decode cL_demandCount 15 = .ok (.iconst 0, 1) := by decide +kernel
theorem dL_demandCount_16 : decode cL_demandCount 16 = .ok (.ireturn, 1) := by decide +kernel
theorem dL_isBefore_0 : decode cL_isBefore 0 = .ok (.aload 4, 2) := by decide +kernel
theorem dL_isBefore_2 : decode cL_isBefore 2 = .ok (.iconst 0, 1) := by decide +kernel
theorem dL_isBefore_3 : decode cL_isBefore 3 = .ok (.aload_n 0, 1) := by decide +kernel
theorem dL_isBefore_4 : decode cL_isBefore 4 = .ok (.iload_n 1, 1) := by decide +kernel
theorem dL_isBefore_5 : decode cL_isBefore 5 = .ok (.iload_n 2, 1) := by decide +kernel
theorem dL_isBefore_6 : decode cL_isBefore 6 = .ok (.iload_n 3, 1) := by decide +kernel
theorem dL_isBefore_7 : decode cL_isBefore 7 = .ok (.invokevirtual 97, 3) := by decide +kernel
theorem dL_isBefore_10 : decode cL_isBefore 10 = .ok (.ifCond .eq 7, 3) := by decide +kernel
theorem dL_isBefore_13 : decode cL_isBefore 13 = .ok (.lconst 1, 1) := by decide +kernel
theorem dL_isBefore_14 : decode cL_isBefore 14 = .ok (.goto 4, 3) := by decide +kernel
theorem dL_isBefore_17 : decode cL_isBefore 17 = .ok (.lconst 0, 1) := by decide +kernel
theorem dL_isBefore_18 : decode cL_isBefore 18 = .ok (.lastore, 1) := by decide +kernel
theorem dL_isBefore_19 : decode cL_isBefore 19 = .ok (.goto 11, 3) := by decide +kernel
theorem dL_isBefore_22 : decode cL_isBefore 22 = .ok (.astore 5, 2) := by decide +kernel
theorem dL_isBefore_24 : decode cL_isBefore 24 = .ok (.iconst 1, 1) := by decide +kernel
theorem dL_isBefore_25 : decode cL_isBefore 25 = .ok (.ireturn, 1) := by decide +kernel
theorem dL_isBefore_26 : decode cL_isBefore 26 = .ok (.astore 5, 2) := by decide +kernel
theorem dL_isBefore_28 : decode cL_isBefore 28 = .ok (.iconst 2, 1) := by decide +kernel
theorem dL_isBefore_29 : decode cL_isBefore 29 = .ok (.ireturn, 1) := by decide +kernel
theorem dL_isBefore_30 : decode cL_isBefore 30 = .ok (.iconst 0, 1) := by decide +kernel
theorem dL_isBefore_31 : decode cL_isBefore 31 = .ok (.ireturn, 1) := by decide +kernel
theorem dL_canDeliver_0 : decode cL_canDeliver 0 = .ok (.aload_n 2, 1) := by decide +kernel
theorem dL_canDeliver_1 : decode cL_canDeliver 1 = .ok (.iconst 0, 1) := by decide +kernel
theorem dL_canDeliver_2 : decode cL_canDeliver 2 = .ok (.aload_n 0, 1) := by decide +kernel
theorem dL_canDeliver_3 : decode cL_canDeliver 3 = .ok (.iload_n 1, 1) := by decide +kernel
theorem dL_canDeliver_4 : decode cL_canDeliver 4 = .ok (.invokevirtual 101, 3) := by decide +kernel
theorem dL_canDeliver_7 : decode cL_canDeliver 7 = .ok (.ifCond .eq 7, 3) := by decide +kernel
theorem dL_canDeliver_10 : decode cL_canDeliver 10 = .ok (.lconst 1, 1) := by decide +kernel
theorem dL_canDeliver_11 : decode cL_canDeliver 11 = .ok (.goto 4, 3) := by decide +kernel
theorem dL_canDeliver_14 : decode cL_canDeliver 14 = .ok (.lconst 0, 1) := by decide +kernel
theorem dL_canDeliver_15 : decode cL_canDeliver 15 = .ok (.lastore, 1) := by decide +kernel
theorem dL_canDeliver_16 : decode cL_canDeliver 16 = .ok (.goto 6, 3) := by decide +kernel
theorem dL_canDeliver_19 : decode cL_canDeliver 19 = .ok (.astore_n 3, 1) := by decide +kernel
theorem dL_canDeliver_20 : decode cL_canDeliver 20 = .ok (.iconst 1, 1) := by decide +kernel
theorem dL_canDeliver_21 : decode cL_canDeliver 21 = .ok (.ireturn, 1) := by decide +kernel
theorem dL_canDeliver_22 : decode cL_canDeliver 22 = .ok (.iconst 0, 1) := by decide +kernel
theorem dL_canDeliver_23 : decode cL_canDeliver 23 = .ok (.ireturn, 1) := by decide +kernel
theorem dL_price_0 : decode cL_price 0 = .ok (.aload_n 2, 1) := by decide +kernel
theorem dL_price_1 : decode cL_price 1 = .ok (.iconst 0, 1) := by decide +kernel
theorem dL_price_2 : decode cL_price 2 = .ok (.aload_n 0, 1) := by decide +kernel
theorem dL_price_3 : decode cL_price 3 = .ok (.iload_n 1, 1) := by decide +kernel
theorem dL_price_4 : decode cL_price 4 = .ok (.invokevirtual 104, 3) := by decide +kernel
theorem dL_price_7 : decode cL_price 7 = .ok (.i2l, 1) := by decide +kernel
theorem dL_price_8 : decode cL_price 8 = .ok (.lastore, 1) := by decide +kernel
theorem dL_price_9 : decode cL_price 9 = .ok (.goto 6, 3) := by decide +kernel
theorem dL_price_12 : decode cL_price 12 = .ok (.astore_n 3, 1) := by decide +kernel
theorem dL_price_13 : decode cL_price 13 = .ok (.iconst 1, 1) := by decide +kernel
theorem dL_price_14 : decode cL_price 14 = .ok (.ireturn, 1) := by decide +kernel
theorem dL_price_15 : decode cL_price 15 = .ok (.iconst 0, 1) := by decide +kernel
theorem dL_price_16 : decode cL_price 16 = .ok (.ireturn, 1) := by decide +kernel
theorem dL_sleevesLeft_0 : decode cL_sleevesLeft 0 = .ok (.aload_n 2, 1) := by decide +kernel
theorem dL_sleevesLeft_1 : decode cL_sleevesLeft 1 = .ok (.iconst 0, 1) := by decide +kernel
theorem dL_sleevesLeft_2 : decode cL_sleevesLeft 2 = .ok (.aload_n 0, 1) := by decide +kernel
theorem dL_sleevesLeft_3 : decode cL_sleevesLeft 3 = .ok (.iload_n 1, 1) := by decide +kernel
theorem dL_sleevesLeft_4 : decode cL_sleevesLeft 4 = .ok (.invokevirtual 107, 3) := by decide +kernel
theorem dL_sleevesLeft_7 : decode cL_sleevesLeft 7 = .ok (.i2l, 1) := by decide +kernel
theorem dL_sleevesLeft_8 : decode cL_sleevesLeft 8 = .ok (.lastore, 1) := by decide +kernel
theorem dL_sleevesLeft_9 : decode cL_sleevesLeft 9 = .ok (.goto 6, 3) := by decide +kernel
theorem dL_sleevesLeft_12 : decode cL_sleevesLeft 12 = .ok (.astore_n 3, 1) := by decide +kernel
theorem dL_sleevesLeft_13 : decode cL_sleevesLeft 13 = .ok (.iconst 1, 1) := by decide +kernel
theorem dL_sleevesLeft_14 : decode cL_sleevesLeft 14 = .ok (.ireturn, 1) := by decide +kernel
theorem dL_sleevesLeft_15 : decode cL_sleevesLeft 15 = .ok (.iconst 0, 1) := by decide +kernel
theorem dL_sleevesLeft_16 : decode cL_sleevesLeft 16 = .ok (.ireturn, 1) := by decide +kernel
theorem dL_sewingOrder_0 : decode cL_sewingOrder 0 = .ok (.aload_n 3, 1) := by decide +kernel
theorem dL_sewingOrder_1 : decode cL_sewingOrder 1 = .ok (.iconst 0, 1) := by decide +kernel
theorem dL_sewingOrder_2 : decode cL_sewingOrder 2 = .ok (.aload_n 0, 1) := by decide +kernel
theorem dL_sewingOrder_3 : decode cL_sewingOrder 3 = .ok (.iload_n 1, 1) := by decide +kernel
theorem dL_sewingOrder_4 : decode cL_sewingOrder 4 = .ok (.iload_n 2, 1) := by decide +kernel
theorem dL_sewingOrder_5 : decode cL_sewingOrder 5 = .ok (.invokevirtual 110, 3) := by decide +kernel
theorem dL_sewingOrder_8 : decode cL_sewingOrder 8 = .ok (.i2l, 1) := by decide +kernel
theorem dL_sewingOrder_9 : decode cL_sewingOrder 9 = .ok (.lastore, 1) := by decide +kernel
theorem dL_sewingOrder_10 : decode cL_sewingOrder 10 = .ok (.goto 11, 3) := by decide +kernel
theorem dL_sewingOrder_13 : decode cL_sewingOrder 13 = .ok (.astore 4, 2) := by decide +kernel
theorem dL_sewingOrder_15 : decode cL_sewingOrder 15 = .ok (.iconst 1, 1) := by decide +kernel
theorem dL_sewingOrder_16 : decode cL_sewingOrder 16 = .ok (.ireturn, 1) := by decide +kernel
theorem dL_sewingOrder_17 : decode cL_sewingOrder 17 = .ok (.astore 4, 2) := by decide +kernel
theorem dL_sewingOrder_19 : decode cL_sewingOrder 19 = .ok (.iconst 2, 1) := by decide +kernel
theorem dL_sewingOrder_20 : decode cL_sewingOrder 20 = .ok (.ireturn, 1) := by decide +kernel
theorem dL_sewingOrder_21 : decode cL_sewingOrder 21 = .ok (.iconst 0, 1) := by decide +kernel
theorem dL_sewingOrder_22 : decode cL_sewingOrder 22 = .ok (.ireturn, 1) := by decide +kernel
theorem dL_sewingOrderByQueue_0 : decode cL_sewingOrderByQueue 0 = .ok (.aload_n 3, 1) := by decide +kernel
theorem dL_sewingOrderByQueue_1 : decode cL_sewingOrderByQueue 1 = .ok (.iconst 0, 1) := by decide +kernel
theorem dL_sewingOrderByQueue_2 : decode cL_sewingOrderByQueue 2 = .ok (.aload_n 0, 1) := by decide +kernel
theorem dL_sewingOrderByQueue_3 : decode cL_sewingOrderByQueue 3 = .ok (.iload_n 1, 1) := by decide +kernel
theorem dL_sewingOrderByQueue_4 : decode cL_sewingOrderByQueue 4 = .ok (.iload_n 2, 1) := by decide +kernel
theorem dL_sewingOrderByQueue_5 : decode cL_sewingOrderByQueue 5 = .ok (.invokevirtual 113, 3) := by decide +kernel
theorem dL_sewingOrderByQueue_8 : decode cL_sewingOrderByQueue 8 = .ok (.i2l, 1) := by decide +kernel
theorem dL_sewingOrderByQueue_9 : decode cL_sewingOrderByQueue 9 = .ok (.lastore, 1) := by decide +kernel
theorem dL_sewingOrderByQueue_10 : decode cL_sewingOrderByQueue 10 = .ok (.goto 11, 3) := by decide +kernel
theorem dL_sewingOrderByQueue_13 : decode cL_sewingOrderByQueue 13 = .ok (.astore 4, 2) := by decide +kernel
theorem dL_sewingOrderByQueue_15 : decode cL_sewingOrderByQueue 15 = .ok (.iconst 1, 1) := by decide +kernel
theorem dL_sewingOrderByQueue_16 : decode cL_sewingOrderByQueue 16 = .ok (.ireturn, 1) := by decide +kernel
theorem dL_sewingOrderByQueue_17 : decode cL_sewingOrderByQueue 17 = .ok (.astore 4, 2) := by decide +kernel
theorem dL_sewingOrderByQueue_19 : decode cL_sewingOrderByQueue 19 = .ok (.iconst 2, 1) := by decide +kernel
theorem dL_sewingOrderByQueue_20 : decode cL_sewingOrderByQueue 20 = .ok (.ireturn, 1) := by decide +kernel
theorem dL_sewingOrderByQueue_21 : decode cL_sewingOrderByQueue 21 = .ok (.iconst 0, 1) := by decide +kernel
theorem dL_sewingOrderByQueue_22 : decode cL_sewingOrderByQueue 22 = .ok (.ireturn, 1) := by decide +kernel
theorem dL_rounds_0 : decode cL_rounds 0 = .ok (.aload_n 2, 1) := by decide +kernel
theorem dL_rounds_1 : decode cL_rounds 1 = .ok (.iconst 0, 1) := by decide +kernel
theorem dL_rounds_2 : decode cL_rounds 2 = .ok (.aload_n 0, 1) := by decide +kernel
theorem dL_rounds_3 : decode cL_rounds 3 = .ok (.iload_n 1, 1) := by decide +kernel
theorem dL_rounds_4 : decode cL_rounds 4 = .ok (.invokevirtual 116, 3) := by decide +kernel
theorem dL_rounds_7 : decode cL_rounds 7 = .ok (.i2l, 1) := by decide +kernel
theorem dL_rounds_8 : decode cL_rounds 8 = .ok (.lastore, 1) := by decide +kernel
theorem dL_rounds_9 : decode cL_rounds 9 = .ok (.goto 6, 3) := by decide +kernel
theorem dL_rounds_12 : decode cL_rounds 12 = .ok (.astore_n 3, 1) := by decide +kernel
theorem dL_rounds_13 : decode cL_rounds 13 = .ok (.iconst 1, 1) := by decide +kernel
theorem dL_rounds_14 : decode cL_rounds 14 = .ok (.ireturn, 1) := by decide +kernel
theorem dL_rounds_15 : decode cL_rounds 15 = .ok (.iconst 0, 1) := by decide +kernel
theorem dL_rounds_16 : decode cL_rounds 16 = .ok (.ireturn, 1) := by decide +kernel
theorem dL_clothNeeded_0 : decode cL_clothNeeded 0 = .ok (.aload_n 2, 1) := by decide +kernel
theorem dL_clothNeeded_1 : decode cL_clothNeeded 1 = .ok (.iconst 0, 1) := by decide +kernel
theorem dL_clothNeeded_2 : decode cL_clothNeeded 2 = .ok (.aload_n 0, 1) := by decide +kernel
theorem dL_clothNeeded_3 : decode cL_clothNeeded 3 = .ok (.iload_n 1, 1) := by decide +kernel
theorem dL_clothNeeded_4 : decode cL_clothNeeded 4 = .ok (.invokevirtual 119, 3) := by decide +kernel
theorem dL_clothNeeded_7 : decode cL_clothNeeded 7 = .ok (.i2l, 1) := by decide +kernel
theorem dL_clothNeeded_8 : decode cL_clothNeeded 8 = .ok (.lastore, 1) := by decide +kernel
theorem dL_clothNeeded_9 : decode cL_clothNeeded 9 = .ok (.goto 6, 3) := by decide +kernel
theorem dL_clothNeeded_12 : decode cL_clothNeeded 12 = .ok (.astore_n 3, 1) := by decide +kernel
theorem dL_clothNeeded_13 : decode cL_clothNeeded 13 = .ok (.iconst 1, 1) := by decide +kernel
theorem dL_clothNeeded_14 : decode cL_clothNeeded 14 = .ok (.ireturn, 1) := by decide +kernel
theorem dL_clothNeeded_15 : decode cL_clothNeeded 15 = .ok (.iconst 0, 1) := by decide +kernel
theorem dL_clothNeeded_16 : decode cL_clothNeeded 16 = .ok (.ireturn, 1) := by decide +kernel
theorem dL_clothNeededByDifference_0 : decode cL_clothNeededByDifference 0 = .ok (.aload_n 2, 1) := by decide +kernel
theorem dL_clothNeededByDifference_1 : decode cL_clothNeededByDifference 1 = .ok (.iconst 0, 1) := by decide +kernel
theorem dL_clothNeededByDifference_2 : decode cL_clothNeededByDifference 2 = .ok (.aload_n 0, 1) := by decide +kernel
theorem dL_clothNeededByDifference_3 : decode cL_clothNeededByDifference 3 = .ok (.iload_n 1, 1) := by decide +kernel
theorem dL_clothNeededByDifference_4 : decode cL_clothNeededByDifference 4 = .ok (.invokevirtual 122, 3) := by decide +kernel
theorem dL_clothNeededByDifference_7 : decode cL_clothNeededByDifference 7 = .ok (.i2l, 1) := by decide +kernel
theorem dL_clothNeededByDifference_8 : decode cL_clothNeededByDifference 8 = .ok (.lastore, 1) := by decide +kernel
theorem dL_clothNeededByDifference_9 : decode cL_clothNeededByDifference 9 = .ok (.goto 6, 3) := by decide +kernel
theorem dL_clothNeededByDifference_12 : decode cL_clothNeededByDifference 12 = .ok (.astore_n 3, 1) := by decide +kernel
theorem dL_clothNeededByDifference_13 : decode cL_clothNeededByDifference 13 = .ok (.iconst 1, 1) := by decide +kernel
theorem dL_clothNeededByDifference_14 : decode cL_clothNeededByDifference 14 = .ok (.ireturn, 1) := by decide +kernel
theorem dL_clothNeededByDifference_15 : decode cL_clothNeededByDifference 15 = .ok (.iconst 0, 1) := by decide +kernel
theorem dL_clothNeededByDifference_16 : decode cL_clothNeededByDifference 16 = .ok (.ireturn, 1) := by decide +kernel
theorem dL_meanLeg_0 : decode cL_meanLeg 0 = .ok (.aload_n 2, 1) := by decide +kernel
theorem dL_meanLeg_1 : decode cL_meanLeg 1 = .ok (.iconst 0, 1) := by decide +kernel
theorem dL_meanLeg_2 : decode cL_meanLeg 2 = .ok (.aload_n 0, 1) := by decide +kernel
theorem dL_meanLeg_3 : decode cL_meanLeg 3 = .ok (.iload_n 1, 1) := by decide +kernel
theorem dL_meanLeg_4 : decode cL_meanLeg 4 = .ok (.invokevirtual 125, 3) := by decide +kernel
theorem dL_meanLeg_7 : decode cL_meanLeg 7 = .ok (.dastore, 1) := by decide +kernel
theorem dL_meanLeg_8 : decode cL_meanLeg 8 = .ok (.goto 6, 3) := by decide +kernel
theorem dL_meanLeg_11 : decode cL_meanLeg 11 = .ok (.astore_n 3, 1) := by decide +kernel
theorem dL_meanLeg_12 : decode cL_meanLeg 12 = .ok (.iconst 1, 1) := by decide +kernel
theorem dL_meanLeg_13 : decode cL_meanLeg 13 = .ok (.ireturn, 1) := by decide +kernel
theorem dL_meanLeg_14 : decode cL_meanLeg 14 = .ok (.iconst 0, 1) := by decide +kernel
theorem dL_meanLeg_15 : decode cL_meanLeg 15 = .ok (.ireturn, 1) := by decide +kernel
theorem dL_wasteShare_0 : decode cL_wasteShare 0 = .ok (.aload_n 1, 1) := by decide +kernel
theorem dL_wasteShare_1 : decode cL_wasteShare 1 = .ok (.iconst 0, 1) := by decide +kernel
theorem dL_wasteShare_2 : decode cL_wasteShare 2 = .ok (.aload_n 0, 1) := by decide +kernel
theorem dL_wasteShare_3 : decode cL_wasteShare 3 = .ok (.invokevirtual 129, 3) := by decide +kernel
theorem dL_wasteShare_6 : decode cL_wasteShare 6 = .ok (.f2d, 1) := by decide +kernel
theorem dL_wasteShare_7 : decode cL_wasteShare 7 = .ok (.dastore, 1) := by decide +kernel
theorem dL_wasteShare_8 : decode cL_wasteShare 8 = .ok (.goto 6, 3) := by decide +kernel
theorem dL_wasteShare_11 : decode cL_wasteShare 11 = .ok (.astore_n 2, 1) := by decide +kernel
theorem dL_wasteShare_12 : decode cL_wasteShare 12 = .ok (.iconst 1, 1) := by decide +kernel
theorem dL_wasteShare_13 : decode cL_wasteShare 13 = .ok (.ireturn, 1) := by decide +kernel
theorem dL_wasteShare_14 : decode cL_wasteShare 14 = .ok (.iconst 0, 1) := by decide +kernel
theorem dL_wasteShare_15 : decode cL_wasteShare 15 = .ok (.ireturn, 1) := by decide +kernel
theorem dL_renderSuit_0 : decode cL_renderSuit 0 = .ok (.aload_n 2, 1) := by decide +kernel
theorem dL_renderSuit_1 : decode cL_renderSuit 1 = .ok (.iconst 0, 1) := by decide +kernel
theorem dL_renderSuit_2 : decode cL_renderSuit 2 = .ok (.aload_n 0, 1) := by decide +kernel
theorem dL_renderSuit_3 : decode cL_renderSuit 3 = .ok (.iload_n 1, 1) := by decide +kernel
theorem dL_renderSuit_4 : decode cL_renderSuit 4 = .ok (.invokevirtual 135, 3) := by decide +kernel
theorem dL_renderSuit_7 : decode cL_renderSuit 7 = .ok (.i2l, 1) := by decide +kernel
theorem dL_renderSuit_8 : decode cL_renderSuit 8 = .ok (.lastore, 1) := by decide +kernel
theorem dL_renderSuit_9 : decode cL_renderSuit 9 = .ok (.goto 6, 3) := by decide +kernel
theorem dL_renderSuit_12 : decode cL_renderSuit 12 = .ok (.astore_n 3, 1) := by decide +kernel
theorem dL_renderSuit_13 : decode cL_renderSuit 13 = .ok (.iconst 1, 1) := by decide +kernel
theorem dL_renderSuit_14 : decode cL_renderSuit 14 = .ok (.ireturn, 1) := by decide +kernel
theorem dL_renderSuit_15 : decode cL_renderSuit 15 = .ok (.iconst 0, 1) := by decide +kernel
theorem dL_renderSuit_16 : decode cL_renderSuit 16 = .ok (.ireturn, 1) := by decide +kernel
theorem dL_renderOrder_0 : decode cL_renderOrder 0 = .ok (.aload_n 2, 1) := by decide +kernel
theorem dL_renderOrder_1 : decode cL_renderOrder 1 = .ok (.iconst 0, 1) := by decide +kernel
theorem dL_renderOrder_2 : decode cL_renderOrder 2 = .ok (.aload_n 0, 1) := by decide +kernel
theorem dL_renderOrder_3 : decode cL_renderOrder 3 = .ok (.iload_n 1, 1) := by decide +kernel
theorem dL_renderOrder_4 : decode cL_renderOrder 4 = .ok (.invokevirtual 138, 3) := by decide +kernel
theorem dL_renderOrder_7 : decode cL_renderOrder 7 = .ok (.i2l, 1) := by decide +kernel
theorem dL_renderOrder_8 : decode cL_renderOrder 8 = .ok (.lastore, 1) := by decide +kernel
theorem dL_renderOrder_9 : decode cL_renderOrder 9 = .ok (.goto 6, 3) := by decide +kernel
theorem dL_renderOrder_12 : decode cL_renderOrder 12 = .ok (.astore_n 3, 1) := by decide +kernel
theorem dL_renderOrder_13 : decode cL_renderOrder 13 = .ok (.iconst 1, 1) := by decide +kernel
theorem dL_renderOrder_14 : decode cL_renderOrder 14 = .ok (.ireturn, 1) := by decide +kernel
theorem dL_renderOrder_15 : decode cL_renderOrder 15 = .ok (.iconst 0, 1) := by decide +kernel
theorem dL_renderOrder_16 : decode cL_renderOrder 16 = .ok (.ireturn, 1) := by decide +kernel
theorem dL_outputAt_0 : decode cL_outputAt 0 = .ok (.aload_n 2, 1) := by decide +kernel
theorem dL_outputAt_1 : decode cL_outputAt 1 = .ok (.iconst 0, 1) := by decide +kernel
theorem dL_outputAt_2 : decode cL_outputAt 2 = .ok (.aload_n 0, 1) := by decide +kernel
theorem dL_outputAt_3 : decode cL_outputAt 3 = .ok (.iload_n 1, 1) := by decide +kernel
theorem dL_outputAt_4 : decode cL_outputAt 4 = .ok (.invokevirtual 141, 3) := by decide +kernel
theorem dL_outputAt_7 : decode cL_outputAt 7 = .ok (.i2l, 1) := by decide +kernel
theorem dL_outputAt_8 : decode cL_outputAt 8 = .ok (.lastore, 1) := by decide +kernel
theorem dL_outputAt_9 : decode cL_outputAt 9 = .ok (.goto 6, 3) := by decide +kernel
theorem dL_outputAt_12 : decode cL_outputAt 12 = .ok (.astore_n 3, 1) := by decide +kernel
theorem dL_outputAt_13 : decode cL_outputAt 13 = .ok (.iconst 1, 1) := by decide +kernel
theorem dL_outputAt_14 : decode cL_outputAt 14 = .ok (.ireturn, 1) := by decide +kernel
theorem dL_outputAt_15 : decode cL_outputAt 15 = .ok (.iconst 0, 1) := by decide +kernel
theorem dL_outputAt_16 : decode cL_outputAt 16 = .ok (.ireturn, 1) := by decide +kernel
theorem dL_type_0 : decode cL_type 0 = .ok (.aload_n 2, 1) := by decide +kernel
theorem dL_type_1 : decode cL_type 1 = .ok (.iconst 0, 1) := by decide +kernel
theorem dL_type_2 : decode cL_type 2 = .ok (.aload_n 0, 1) := by decide +kernel
theorem dL_type_3 : decode cL_type 3 = .ok (.iload_n 1, 1) := by decide +kernel
theorem dL_type_4 : decode cL_type 4 = .ok (.invokevirtual 145, 3) := by decide +kernel
theorem dL_type_7 : decode cL_type 7 = .ok (.i2l, 1) := by decide +kernel
theorem dL_type_8 : decode cL_type 8 = .ok (.lastore, 1) := by decide +kernel
theorem dL_type_9 : decode cL_type 9 = .ok (.goto 9, 3) := by decide +kernel
theorem dL_type_12 : decode cL_type 12 = .ok (.astore_n 3, 1) := by decide +kernel
theorem dL_type_13 : decode cL_type 13 = .ok (.iconst 1, 1) := by decide +kernel
theorem dL_type_14 : decode cL_type 14 = .ok (.ireturn, 1) := by decide +kernel
theorem dL_type_15 : decode cL_type 15 = .ok (.astore_n 3, 1) := by decide +kernel
theorem dL_type_16 : decode cL_type 16 = .ok (.iconst 2, 1) := by decide +kernel
theorem dL_type_17 : decode cL_type 17 = .ok (.ireturn, 1) := by decide +kernel
theorem dL_type_18 : decode cL_type 18 = .ok (.iconst 0, 1) := by decide +kernel
theorem dL_type_19 : decode cL_type 19 = .ok (.ireturn, 1) := by decide +kernel
theorem dL_runScript_0 : decode cL_runScript 0 = .ok (.aload_n 1, 1) := by decide +kernel
theorem dL_runScript_1 : decode cL_runScript 1 = .ok (.iconst 0, 1) := by decide +kernel
theorem dL_runScript_2 : decode cL_runScript 2 = .ok (.aload_n 0, 1) := by decide +kernel
theorem dL_runScript_3 : decode cL_runScript 3 = .ok (.invokevirtual 149, 3) := by decide +kernel
theorem dL_runScript_6 : decode cL_runScript 6 = .ok (.i2l, 1) := by decide +kernel
theorem dL_runScript_7 : decode cL_runScript 7 = .ok (.lastore, 1) := by decide +kernel
theorem dL_runScript_8 : decode cL_runScript 8 = .ok (.goto 9, 3) := by decide +kernel
theorem dL_runScript_11 : decode cL_runScript 11 = .ok (.astore_n 2, 1) := by decide +kernel
theorem dL_runScript_12 : decode cL_runScript 12 = .ok (.iconst 1, 1) := by decide +kernel
theorem dL_runScript_13 : decode cL_runScript 13 = .ok (.ireturn, 1) := by decide +kernel
theorem dL_runScript_14 : decode cL_runScript 14 = .ok (.astore_n 2, 1) := by decide +kernel
theorem dL_runScript_15 : decode cL_runScript 15 = .ok (.iconst 2, 1) := by decide +kernel
theorem dL_runScript_16 : decode cL_runScript 16 = .ok (.ireturn, 1) := by decide +kernel
theorem dL_runScript_17 : decode cL_runScript 17 = .ok (.iconst 0, 1) := by decide +kernel
theorem dL_runScript_18 : decode cL_runScript 18 = .ok (.ireturn, 1) := by decide +kernel
theorem dL_errorPosition_0 : decode cL_errorPosition 0 = .ok (.aload_n 1, 1) := by decide +kernel
theorem dL_errorPosition_1 : decode cL_errorPosition 1 = .ok (.iconst 0, 1) := by decide +kernel
theorem dL_errorPosition_2 : decode cL_errorPosition 2 = .ok (.aload_n 0, 1) := by decide +kernel
theorem dL_errorPosition_3 : decode cL_errorPosition 3 = .ok (.invokevirtual 153, 3) := by decide +kernel
theorem dL_errorPosition_6 : decode cL_errorPosition 6 = .ok (.i2l, 1) := by decide +kernel
theorem dL_errorPosition_7 : decode cL_errorPosition 7 = .ok (.lastore, 1) := by decide +kernel
theorem dL_errorPosition_8 : decode cL_errorPosition 8 = .ok (.goto 6, 3) := by decide +kernel
theorem dL_errorPosition_11 : decode cL_errorPosition 11 = .ok (.astore_n 2, 1) := by decide +kernel
theorem dL_errorPosition_12 : decode cL_errorPosition 12 = .ok (.iconst 1, 1) := by decide +kernel
theorem dL_errorPosition_13 : decode cL_errorPosition 13 = .ok (.ireturn, 1) := by decide +kernel
theorem dL_errorPosition_14 : decode cL_errorPosition 14 = .ok (.iconst 0, 1) := by decide +kernel
theorem dL_errorPosition_15 : decode cL_errorPosition 15 = .ok (.ireturn, 1) := by decide +kernel
theorem dL_failedCommand_0 : decode cL_failedCommand 0 = .ok (.aload_n 1, 1) := by decide +kernel
theorem dL_failedCommand_1 : decode cL_failedCommand 1 = .ok (.iconst 0, 1) := by decide +kernel
theorem dL_failedCommand_2 : decode cL_failedCommand 2 = .ok (.aload_n 0, 1) := by decide +kernel
theorem dL_failedCommand_3 : decode cL_failedCommand 3 = .ok (.invokevirtual 156, 3) := by decide +kernel
theorem dL_failedCommand_6 : decode cL_failedCommand 6 = .ok (.i2l, 1) := by decide +kernel
theorem dL_failedCommand_7 : decode cL_failedCommand 7 = .ok (.lastore, 1) := by decide +kernel
theorem dL_failedCommand_8 : decode cL_failedCommand 8 = .ok (.goto 6, 3) := by decide +kernel
theorem dL_failedCommand_11 : decode cL_failedCommand 11 = .ok (.astore_n 2, 1) := by decide +kernel
theorem dL_failedCommand_12 : decode cL_failedCommand 12 = .ok (.iconst 1, 1) := by decide +kernel
theorem dL_failedCommand_13 : decode cL_failedCommand 13 = .ok (.ireturn, 1) := by decide +kernel
theorem dL_failedCommand_14 : decode cL_failedCommand 14 = .ok (.iconst 0, 1) := by decide +kernel
theorem dL_failedCommand_15 : decode cL_failedCommand 15 = .ok (.ireturn, 1) := by decide +kernel
theorem dL_undo_0 : decode cL_undo 0 = .ok (.aload_n 1, 1) := by decide +kernel
theorem dL_undo_1 : decode cL_undo 1 = .ok (.iconst 0, 1) := by decide +kernel
theorem dL_undo_2 : decode cL_undo 2 = .ok (.aload_n 0, 1) := by decide +kernel
theorem dL_undo_3 : decode cL_undo 3 = .ok (.invokevirtual 159, 3) := by decide +kernel
theorem dL_undo_6 : decode cL_undo 6 = .ok (.i2l, 1) := by decide +kernel
theorem dL_undo_7 : decode cL_undo 7 = .ok (.lastore, 1) := by decide +kernel
theorem dL_undo_8 : decode cL_undo 8 = .ok (.goto 6, 3) := by decide +kernel
theorem dL_undo_11 : decode cL_undo 11 = .ok (.astore_n 2, 1) := by decide +kernel
theorem dL_undo_12 : decode cL_undo 12 = .ok (.iconst 1, 1) := by decide +kernel
theorem dL_undo_13 : decode cL_undo 13 = .ok (.ireturn, 1) := by decide +kernel
theorem dL_undo_14 : decode cL_undo 14 = .ok (.iconst 0, 1) := by decide +kernel
theorem dL_undo_15 : decode cL_undo 15 = .ok (.ireturn, 1) := by decide +kernel
theorem dL_restore_0 : decode cL_restore 0 = .ok (.aload_n 1, 1) := by decide +kernel
theorem dL_restore_1 : decode cL_restore 1 = .ok (.iconst 0, 1) := by decide +kernel
theorem dL_restore_2 : decode cL_restore 2 = .ok (.aload_n 0, 1) := by decide +kernel
theorem dL_restore_3 : decode cL_restore 3 = .ok (.invokevirtual 162, 3) := by decide +kernel
theorem dL_restore_6 : decode cL_restore 6 = .ok (.i2l, 1) := by decide +kernel
theorem dL_restore_7 : decode cL_restore 7 = .ok (.lastore, 1) := by decide +kernel
theorem dL_restore_8 : decode cL_restore 8 = .ok (.goto 6, 3) := by decide +kernel
theorem dL_restore_11 : decode cL_restore 11 = .ok (.astore_n 2, 1) := by decide +kernel
theorem dL_restore_12 : decode cL_restore 12 = .ok (.iconst 1, 1) := by decide +kernel
theorem dL_restore_13 : decode cL_restore 13 = .ok (.ireturn, 1) := by decide +kernel
theorem dL_restore_14 : decode cL_restore 14 = .ok (.iconst 0, 1) := by decide +kernel
theorem dL_restore_15 : decode cL_restore 15 = .ok (.ireturn, 1) := by decide +kernel
