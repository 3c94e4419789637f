theorem dL_street_0 : decode cL_street 0 = .ok (.aload_n 2, 1) := by decide +kernel
theorem dL_street_1 : decode cL_street 1 = .ok (.iconst 0, 1) := by decide +kernel
theorem dL_street_2 : decode cL_street 2 = .ok (.aload_n 0, 1) := by decide +kernel
theorem dL_street_3 : decode cL_street 3 = .ok (.iload_n 1, 1) := by decide +kernel
theorem dL_street_4 : decode cL_street 4 = .ok (.invokevirtual 7, 3) := by decide +kernel
theorem dL_street_7 : decode cL_street 7 = .ok (.i2l, 1) := by decide +kernel
theorem dL_street_8 : decode cL_street 8 = .ok (.lastore, 1) := by decide +kernel
theorem dL_street_9 : decode cL_street 9 = .ok (.goto 6, 3) := by decide +kernel
theorem dL_street_12 : decode cL_street 12 = .ok (.astore_n 3, 1) := by decide +kernel
theorem dL_street_13 : decode cL_street 13 = .ok (.iconst 1, 1) := by decide +kernel
theorem dL_street_14 : decode cL_street 14 = .ok (.ireturn, 1) := by decide +kernel
theorem dL_street_15 : decode cL_street 15 = .ok (.iconst 0, 1) := by decide +kernel
theorem dL_street_16 : decode cL_street 16 = .ok (.ireturn, 1) := by decide +kernel
theorem dL_house_0 : decode cL_house 0 = .ok (.aload_n 3, 1) := by decide +kernel
theorem dL_house_1 : decode cL_house 1 = .ok (.iconst 0, 1) := by decide +kernel
theorem dL_house_2 : decode cL_house 2 = .ok (.aload_n 0, 1) := by decide +kernel
theorem dL_house_3 : decode cL_house 3 = .ok (.iload_n 1, 1) := by decide +kernel
theorem dL_house_4 : decode cL_house 4 = .ok (.iload_n 2, 1) := by decide +kernel
theorem dL_house_5 : decode cL_house 5 = .ok (.invokevirtual 15, 3) := by decide +kernel
theorem dL_house_8 : decode cL_house 8 = .ok (.i2l, 1) := by decide +kernel
theorem dL_house_9 : decode cL_house 9 = .ok (.lastore, 1) := by decide +kernel
theorem dL_house_10 : decode cL_house 10 = .ok (.goto 11, 3) := by decide +kernel
theorem dL_house_13 : decode cL_house 13 = .ok (.astore 4, 2) := by decide +kernel
theorem dL_house_15 : decode cL_house 15 = .ok (.iconst 1, 1) := by decide +kernel
theorem dL_house_16 : decode cL_house 16 = .ok (.ireturn, 1) := by decide +kernel
theorem dL_house_17 : decode cL_house 17 = .ok (.astore 4, 2) := by decide +kernel
theorem dL_house_19 : decode cL_house 19 = .ok (.iconst 2, 1) := by decide +kernel
theorem dL_house_20 : decode cL_house 20 = .ok (.ireturn, 1) := by decide +kernel
theorem dL_house_21 : decode cL_house 21 = .ok (.iconst 0, 1) := by decide +kernel
theorem dL_house_22 : decode cL_house 22 = .ok (.ireturn, 1) := by decide +kernel
theorem dL_household_0 : decode cL_household 0 = .ok (.aload_n 3, 1) := by decide +kernel
theorem dL_household_1 : decode cL_household 1 = .ok (.iconst 0, 1) := by decide +kernel
theorem dL_household_2 : decode cL_household 2 = .ok (.aload_n 0, 1) := by decide +kernel
theorem dL_household_3 : decode cL_household 3 = .ok (.iload_n 1, 1) := by decide +kernel
theorem dL_household_4 : decode cL_household 4 = .ok (.iload_n 2, 1) := by decide +kernel
theorem dL_household_5 : decode cL_household 5 = .ok (.invokevirtual 21, 3) := by decide +kernel
theorem dL_household_8 : decode cL_household 8 = .ok (.i2l, 1) := by decide +kernel
theorem dL_household_9 : decode cL_household 9 = .ok (.lastore, 1) := by decide +kernel
theorem dL_household_10 : decode cL_household 10 = .ok (.goto 11, 3) := by decide +kernel
theorem dL_household_13 : decode cL_household 13 = .ok (.astore 4, 2) := by decide +kernel
theorem dL_household_15 : decode cL_household 15 = .ok (.iconst 1, 1) := by decide +kernel
theorem dL_household_16 : decode cL_household 16 = .ok (.ireturn, 1) := by decide +kernel
theorem dL_household_17 : decode cL_household 17 = .ok (.astore 4, 2) := by decide +kernel
theorem dL_household_19 : decode cL_household 19 = .ok (.iconst 2, 1) := by decide +kernel
theorem dL_household_20 : decode cL_household 20 = .ok (.ireturn, 1) := by decide +kernel
theorem dL_household_21 : decode cL_household 21 = .ok (.iconst 0, 1) := by decide +kernel
theorem dL_household_22 : decode cL_household 22 = .ok (.ireturn, 1) := by decide +kernel
theorem dL_pays_0 : decode cL_pays 0 = .ok (.aload_n 2, 1) := by decide +kernel
theorem dL_pays_1 : decode cL_pays 1 = .ok (.iconst 0, 1) := by decide +kernel
theorem dL_pays_2 : decode cL_pays 2 = .ok (.aload_n 0, 1) := by decide +kernel
theorem dL_pays_3 : decode cL_pays 3 = .ok (.iload_n 1, 1) := by decide +kernel
theorem dL_pays_4 : decode cL_pays 4 = .ok (.invokevirtual 24, 3) := by decide +kernel
theorem dL_pays_7 : decode cL_pays 7 = .ok (.i2l, 1) := by decide +kernel
theorem dL_pays_8 : decode cL_pays 8 = .ok (.lastore, 1) := by decide +kernel
theorem dL_pays_9 : decode cL_pays 9 = .ok (.goto 9, 3) := by decide +kernel
theorem dL_pays_12 : decode cL_pays 12 = .ok (.astore_n 3, 1) := by decide +kernel
theorem dL_pays_13 : decode cL_pays 13 = .ok (.iconst 1, 1) := by decide +kernel
theorem dL_pays_14 : decode cL_pays 14 = .ok (.ireturn, 1) := by decide +kernel
theorem dL_pays_15 : decode cL_pays 15 = .ok (.astore_n 3, 1) := by decide +kernel
theorem dL_pays_16 : decode cL_pays 16 = .ok (.iconst 2, 1) := by decide +kernel
theorem dL_pays_17 : decode cL_pays 17 = .ok (.ireturn, 1) := by decide +kernel
theorem dL_pays_18 : decode cL_pays 18 = .ok (.iconst 0, 1) := by decide +kernel
theorem dL_pays_19 : decode cL_pays 19 = .ok (.ireturn, 1) := by decide +kernel
theorem dL_grows_0 : decode cL_grows 0 = .ok (.aload_n 3, 1) := by decide +kernel
theorem dL_grows_1 : decode cL_grows 1 = .ok (.iconst 0, 1) := by decide +kernel
theorem dL_grows_2 : decode cL_grows 2 = .ok (.aload_n 0, 1) := by decide +kernel
theorem dL_grows_3 : decode cL_grows 3 = .ok (.iload_n 1, 1) := by decide +kernel
theorem dL_grows_4 : decode cL_grows 4 = .ok (.iload_n 2, 1) := by decide +kernel
theorem dL_grows_5 : decode cL_grows 5 = .ok (.invokevirtual 29, 3) := by decide +kernel
theorem dL_grows_8 : decode cL_grows 8 = .ok (.i2l, 1) := by decide +kernel
theorem dL_grows_9 : decode cL_grows 9 = .ok (.lastore, 1) := by decide +kernel
theorem dL_grows_10 : decode cL_grows 10 = .ok (.goto 11, 3) := by decide +kernel
theorem dL_grows_13 : decode cL_grows 13 = .ok (.astore 4, 2) := by decide +kernel
theorem dL_grows_15 : decode cL_grows 15 = .ok (.iconst 1, 1) := by decide +kernel
theorem dL_grows_16 : decode cL_grows 16 = .ok (.ireturn, 1) := by decide +kernel
theorem dL_grows_17 : decode cL_grows 17 = .ok (.astore 4, 2) := by decide +kernel
theorem dL_grows_19 : decode cL_grows 19 = .ok (.iconst 2, 1) := by decide +kernel
theorem dL_grows_20 : decode cL_grows 20 = .ok (.ireturn, 1) := by decide +kernel
theorem dL_grows_21 : decode cL_grows 21 = .ok (.iconst 0, 1) := by decide +kernel
theorem dL_grows_22 : decode cL_grows 22 = .ok (.ireturn, 1) := by decide +kernel
theorem dL_takes_0 : decode cL_takes 0 = .ok (.aload_n 3, 1) := by decide +kernel
theorem dL_takes_1 : decode cL_takes 1 = .ok (.iconst 0, 1) := by decide +kernel
theorem dL_takes_2 : decode cL_takes 2 = .ok (.aload_n 0, 1) := by decide +kernel
theorem dL_takes_3 : decode cL_takes 3 = .ok (.iload_n 1, 1) := by decide +kernel
theorem dL_takes_4 : decode cL_takes 4 = .ok (.iload_n 2, 1) := by decide +kernel
theorem dL_takes_5 : decode cL_takes 5 = .ok (.invokevirtual 32, 3) := by decide +kernel
theorem dL_takes_8 : decode cL_takes 8 = .ok (.ifCond .eq 7, 3) := by decide +kernel
theorem dL_takes_11 : decode cL_takes 11 = .ok (.lconst 1, 1) := by decide +kernel
theorem dL_takes_12 : decode cL_takes 12 = .ok (.goto 4, 3) := by decide +kernel
theorem dL_takes_15 : decode cL_takes 15 = .ok (.lconst 0, 1) := by decide +kernel
theorem dL_takes_16 : decode cL_takes 16 = .ok (.lastore, 1) := by decide +kernel
theorem dL_takes_17 : decode cL_takes 17 = .ok (.goto 11, 3) := by decide +kernel
theorem dL_takes_20 : decode cL_takes 20 = .ok (.astore 4, 2) := by decide +kernel
theorem dL_takes_22 : decode cL_takes 22 = .ok (.iconst 1, 1) := by decide +kernel
theorem dL_takes_23 : decode cL_takes 23 = .ok (.ireturn, 1) := by decide +kernel
theorem dL_takes_24 : decode cL_takes 24 = .ok (.astore 4, 2) := by decide +kernel
theorem dL_takes_26 : decode cL_takes 26 = .ok (.iconst 2, 1) := by decide +kernel
theorem dL_takes_27 : decode cL_takes 27 = .ok (.ireturn, 1) := by decide +kernel
theorem dL_takes_28 : decode cL_takes 28 = .ok (.iconst 0, 1) := by decide +kernel
theorem dL_takes_29 : decode cL_takes 29 = .ok (.ireturn, 1) := by decide +kernel
theorem dL_plant_0 : decode cL_plant 0 = .ok (.aload_n 3, 1) := by decide +kernel
theorem dL_plant_1 : decode cL_plant 1 = .ok (.iconst 0, 1) := by decide +kernel
theorem dL_plant_2 : decode cL_plant 2 = .ok (.aload_n 0, 1) := by decide +kernel
theorem dL_plant_3 : decode cL_plant 3 = .ok (.iload_n 1, 1) := by decide +kernel
theorem dL_plant_4 : decode cL_plant 4 = .ok (.iload_n 2, 1) := by decide +kernel
theorem dL_plant_5 : decode cL_plant 5 = .ok (.invokevirtual 36, 3) := by decide +kernel
theorem dL_plant_8 : decode cL_plant 8 = .ok (.i2l, 1) := by decide +kernel
theorem dL_plant_9 : decode cL_plant 9 = .ok (.lastore, 1) := by decide +kernel
theorem dL_plant_10 : decode cL_plant 10 = .ok (.goto 11, 3) := by decide +kernel
theorem dL_plant_13 : decode cL_plant 13 = .ok (.astore 4, 2) := by decide +kernel
theorem dL_plant_15 : decode cL_plant 15 = .ok (.iconst 1, 1) := by decide +kernel
theorem dL_plant_16 : decode cL_plant 16 = .ok (.ireturn, 1) := by decide +kernel
theorem dL_plant_17 : decode cL_plant 17 = .ok (.astore 4, 2) := by decide +kernel
theorem dL_plant_19 : decode cL_plant 19 = .ok (.iconst 2, 1) := by decide +kernel
theorem dL_plant_20 : decode cL_plant 20 = .ok (.ireturn, 1) := by decide +kernel
theorem dL_plant_21 : decode cL_plant 21 = .ok (.iconst 0, 1) := by decide +kernel
theorem dL_plant_22 : decode cL_plant 22 = .ok (.ireturn, 1) := by decide +kernel
theorem dL_quarters_0 : decode cL_quarters 0 = .ok (.aload_n 2, 1) := by decide +kernel
theorem dL_quarters_1 : decode cL_quarters 1 = .ok (.iconst 0, 1) := by decide +kernel
theorem dL_quarters_2 : decode cL_quarters 2 = .ok (.aload_n 0, 1) := by decide +kernel
theorem dL_quarters_3 : decode cL_quarters 3 = .ok (.iload_n 1, 1) := by decide +kernel
theorem dL_quarters_4 : decode cL_quarters 4 = .ok (.invokevirtual 39, 3) := by decide +kernel
theorem dL_quarters_7 : decode cL_quarters 7 = .ok (.i2l, 1) := by decide +kernel
theorem dL_quarters_8 : decode cL_quarters 8 = .ok (.lastore, 1) := by decide +kernel
theorem dL_quarters_9 : decode cL_quarters 9 = .ok (.goto 6, 3) := by decide +kernel
theorem dL_quarters_12 : decode cL_quarters 12 = .ok (.astore_n 3, 1) := by decide +kernel
theorem dL_quarters_13 : decode cL_quarters 13 = .ok (.iconst 1, 1) := by decide +kernel
theorem dL_quarters_14 : decode cL_quarters 14 = .ok (.ireturn, 1) := by decide +kernel
theorem dL_quarters_15 : decode cL_quarters 15 = .ok (.iconst 0, 1) := by decide +kernel
theorem dL_quarters_16 : decode cL_quarters 16 = .ok (.ireturn, 1) := by decide +kernel
theorem dL_undo_0 : decode cL_undo 0 = .ok (.aload_n 2, 1) := by decide +kernel
theorem dL_undo_1 : decode cL_undo 1 = .ok (.iconst 0, 1) := by decide +kernel
theorem dL_undo_2 : decode cL_undo 2 = .ok (.aload_n 0, 1) := by decide +kernel
theorem dL_undo_3 : decode cL_undo 3 = .ok (.iload_n 1, 1) := by decide +kernel
theorem dL_undo_4 : decode cL_undo 4 = .ok (.invokevirtual 42, 3) := by decide +kernel
theorem dL_undo_7 : decode cL_undo 7 = .ok (.i2l, 1) := by decide +kernel
theorem dL_undo_8 : decode cL_undo 8 = .ok (.lastore, 1) := by decide +kernel
theorem dL_undo_9 : decode cL_undo 9 = .ok (.goto 6, 3) := by decide +kernel
theorem dL_undo_12 : decode cL_undo 12 = .ok (.astore_n 3, 1) := by decide +kernel
theorem dL_undo_13 : decode cL_undo 13 = .ok (.iconst 1, 1) := by decide +kernel
theorem dL_undo_14 : decode cL_undo 14 = .ok (.ireturn, 1) := by decide +kernel
theorem dL_undo_15 : decode cL_undo 15 = .ok (.iconst 0, 1) := by decide +kernel
theorem dL_undo_16 : decode cL_undo 16 = .ok (.ireturn, 1) := by decide +kernel
theorem dL_judge_0 : decode cL_judge 0 = .ok (.aload_n 3, 1) := by decide +kernel
theorem dL_judge_1 : decode cL_judge 1 = .ok (.iconst 0, 1) := by decide +kernel
theorem dL_judge_2 : decode cL_judge 2 = .ok (.aload_n 0, 1) := by decide +kernel
theorem dL_judge_3 : decode cL_judge 3 = .ok (.iload_n 1, 1) := by decide +kernel
theorem dL_judge_4 : decode cL_judge 4 = .ok (.iload_n 2, 1) := by decide +kernel
theorem dL_judge_5 : decode cL_judge 5 = .ok (.invokevirtual 45, 3) := by decide +kernel
theorem dL_judge_8 : decode cL_judge 8 = .ok (.i2l, 1) := by decide +kernel
theorem dL_judge_9 : decode cL_judge 9 = .ok (.lastore, 1) := by decide +kernel
theorem dL_judge_10 : decode cL_judge 10 = .ok (.goto 15, 3) := by decide +kernel
theorem dL_judge_13 : decode cL_judge 13 = .ok (.astore 4, 2) := by decide +kernel
theorem dL_judge_15 : decode cL_judge 15 = .ok (.iconst 1, 1) := by decide +kernel
theorem dL_judge_16 : decode cL_judge 16 = .ok (.ireturn, 1) := by decide +kernel
theorem dL_judge_17 : decode cL_judge 17 = .ok (.astore 4, 2) := by decide +kernel
theorem dL_judge_19 : decode cL_judge 19 = .ok (.iconst 2, 1) := by decide +kernel
theorem dL_judge_20 : decode cL_judge 20 = .ok (.ireturn, 1) := by decide +kernel
theorem dL_judge_21 : decode cL_judge 21 = .ok (.astore 4, 2) := by decide +kernel
theorem dL_judge_23 : decode cL_judge 23 = .ok (.iconst 3, 1) := by decide +kernel
theorem dL_judge_24 : decode cL_judge 24 = .ok (.ireturn, 1) := by decide +kernel
theorem dL_judge_25 : decode cL_judge 25 = .ok (.iconst 0, 1) := by decide +kernel
theorem dL_judge_26 : decode cL_judge 26 = .ok (.ireturn, 1) := by decide +kernel
theorem dL_perform_0 : decode cL_perform 0 = .ok (.aload_n 2, 1) := by decide +kernel
theorem dL_perform_1 : decode cL_perform 1 = .ok (.iconst 0, 1) := by decide +kernel
theorem dL_perform_2 : decode cL_perform 2 = .ok (.aload_n 0, 1) := by decide +kernel
theorem dL_perform_3 : decode cL_perform 3 = .ok (.iload_n 1, 1) := by decide +kernel
theorem dL_perform_4 : decode cL_perform 4 = .ok (.invokevirtual 48, 3) := by decide +kernel
theorem dL_perform_7 : decode cL_perform 7 = .ok (.i2l, 1) := by decide +kernel
theorem dL_perform_8 : decode cL_perform 8 = .ok (.lastore, 1) := by decide +kernel
theorem dL_perform_9 : decode cL_perform 9 = .ok (.goto 9, 3) := by decide +kernel
theorem dL_perform_12 : decode cL_perform 12 = .ok (.astore_n 3, 1) := by decide +kernel
theorem dL_perform_13 : decode cL_perform 13 = .ok (.iconst 1, 1) := by decide +kernel
theorem dL_perform_14 : decode cL_perform 14 = .ok (.ireturn, 1) := by decide +kernel
theorem dL_perform_15 : decode cL_perform 15 = .ok (.astore_n 3, 1) := by decide +kernel
theorem dL_perform_16 : decode cL_perform 16 = .ok (.iconst 2, 1) := by decide +kernel
theorem dL_perform_17 : decode cL_perform 17 = .ok (.ireturn, 1) := by decide +kernel
theorem dL_perform_18 : decode cL_perform 18 = .ok (.iconst 0, 1) := by decide +kernel
theorem dL_perform_19 : decode cL_perform 19 = .ok (.ireturn, 1) := by decide +kernel
theorem dL_year_0 : decode cL_year 0 = .ok (.aload_n 3, 1) := by decide +kernel
theorem dL_year_1 : decode cL_year 1 = .ok (.iconst 0, 1) := by decide +kernel
theorem dL_year_2 : decode cL_year 2 = .ok (.aload_n 0, 1) := by decide +kernel
theorem dL_year_3 : decode cL_year 3 = .ok (.iload_n 1, 1) := by decide +kernel
theorem dL_year_4 : decode cL_year 4 = .ok (.iload_n 2, 1) := by decide +kernel
theorem dL_year_5 : decode cL_year 5 = .ok (.invokevirtual 51, 3) := by decide +kernel
theorem dL_year_8 : decode cL_year 8 = .ok (.i2l, 1) := by decide +kernel
theorem dL_year_9 : decode cL_year 9 = .ok (.lastore, 1) := by decide +kernel
theorem dL_year_10 : decode cL_year 10 = .ok (.goto 7, 3) := by decide +kernel
theorem dL_year_13 : decode cL_year 13 = .ok (.astore 4, 2) := by decide +kernel
theorem dL_year_15 : decode cL_year 15 = .ok (.iconst 1, 1) := by decide +kernel
theorem dL_year_16 : decode cL_year 16 = .ok (.ireturn, 1) := by decide +kernel
theorem dL_year_17 : decode cL_year 17 = .ok (.iconst 0, 1) := by decide +kernel
theorem dL_year_18 : decode cL_year 18 = .ok (.ireturn, 1) := by decide +kernel
theorem dL_debtIn_0 : decode cL_debtIn 0 = .ok (.aload_n 3, 1) := by decide +kernel
theorem dL_debtIn_1 : decode cL_debtIn 1 = .ok (.iconst 0, 1) := by decide +kernel
theorem dL_debtIn_2 : decode cL_debtIn 2 = .ok (.aload_n 0, 1) := by decide +kernel
theorem dL_debtIn_3 : decode cL_debtIn 3 = .ok (.iload_n 1, 1) := by decide +kernel
theorem dL_debtIn_4 : decode cL_debtIn 4 = .ok (.iload_n 2, 1) := by decide +kernel
theorem dL_debtIn_5 : decode cL_debtIn 5 = .ok (.invokevirtual 54, 3) := by decide +kernel
theorem dL_debtIn_8 : decode cL_debtIn 8 = .ok (.i2l, 1) := by decide +kernel
theorem dL_debtIn_9 : decode cL_debtIn 9 = .ok (.lastore, 1) := by decide +kernel
theorem dL_debtIn_10 : decode cL_debtIn 10 = .ok (.goto 11, 3) := by decide +kernel
theorem dL_debtIn_13 : decode cL_debtIn 13 = .ok (.astore 4, 2) := by decide +kernel
theorem dL_debtIn_15 : decode cL_debtIn 15 = .ok (.iconst 1, 1) := by decide +kernel
theorem dL_debtIn_16 : decode cL_debtIn 16 = .ok (.ireturn, 1) := by decide +kernel
theorem dL_debtIn_17 : decode cL_debtIn 17 = .ok (.astore 4, 2) := by decide +kernel
theorem dL_debtIn_19 : decode cL_debtIn 19 = .ok (.iconst 2, 1) := by decide +kernel
theorem dL_debtIn_20 : decode cL_debtIn 20 = .ok (.ireturn, 1) := by decide +kernel
theorem dL_debtIn_21 : decode cL_debtIn 21 = .ok (.iconst 0, 1) := by decide +kernel
theorem dL_debtIn_22 : decode cL_debtIn 22 = .ok (.ireturn, 1) := by decide +kernel
theorem dL_cashIn_0 : decode cL_cashIn 0 = .ok (.aload_n 3, 1) := by decide +kernel
theorem dL_cashIn_1 : decode cL_cashIn 1 = .ok (.iconst 0, 1) := by decide +kernel
theorem dL_cashIn_2 : decode cL_cashIn 2 = .ok (.aload_n 0, 1) := by decide +kernel
theorem dL_cashIn_3 : decode cL_cashIn 3 = .ok (.iload_n 1, 1) := by decide +kernel
theorem dL_cashIn_4 : decode cL_cashIn 4 = .ok (.iload_n 2, 1) := by decide +kernel
theorem dL_cashIn_5 : decode cL_cashIn 5 = .ok (.invokevirtual 57, 3) := by decide +kernel
theorem dL_cashIn_8 : decode cL_cashIn 8 = .ok (.i2l, 1) := by decide +kernel
theorem dL_cashIn_9 : decode cL_cashIn 9 = .ok (.lastore, 1) := by decide +kernel
theorem dL_cashIn_10 : decode cL_cashIn 10 = .ok (.goto 11, 3) := by decide +kernel
theorem dL_cashIn_13 : decode cL_cashIn 13 = .ok (.astore 4, 2) := by decide +kernel
theorem dL_cashIn_15 : decode cL_cashIn 15 = .ok (.iconst 1, 1) := by decide +kernel
theorem dL_cashIn_16 : decode cL_cashIn 16 = .ok (.ireturn, 1) := by decide +kernel
theorem dL_cashIn_17 : decode cL_cashIn 17 = .ok (.astore 4, 2) := by decide +kernel
theorem dL_cashIn_19 : decode cL_cashIn 19 = .ok (.iconst 2, 1) := by decide +kernel
theorem dL_cashIn_20 : decode cL_cashIn 20 = .ok (.ireturn, 1) := by decide +kernel
theorem dL_cashIn_21 : decode cL_cashIn 21 = .ok (.iconst 0, 1) := by decide +kernel
theorem dL_cashIn_22 : decode cL_cashIn 22 = .ok (.ireturn, 1) := by decide +kernel
theorem dL_ruinIn_0 : decode cL_ruinIn 0 = .ok (.aload_n 2, 1) := by decide +kernel
theorem dL_ruinIn_1 : decode cL_ruinIn 1 = .ok (.iconst 0, 1) := by decide +kernel
theorem dL_ruinIn_2 : decode cL_ruinIn 2 = .ok (.aload_n 0, 1) := by decide +kernel
theorem dL_ruinIn_3 : decode cL_ruinIn 3 = .ok (.iload_n 1, 1) := by decide +kernel
theorem dL_ruinIn_4 : decode cL_ruinIn 4 = .ok (.invokevirtual 60, 3) := by decide +kernel
theorem dL_ruinIn_7 : decode cL_ruinIn 7 = .ok (.i2l, 1) := by decide +kernel
theorem dL_ruinIn_8 : decode cL_ruinIn 8 = .ok (.lastore, 1) := by decide +kernel
theorem dL_ruinIn_9 : decode cL_ruinIn 9 = .ok (.goto 6, 3) := by decide +kernel
theorem dL_ruinIn_12 : decode cL_ruinIn 12 = .ok (.astore_n 3, 1) := by decide +kernel
theorem dL_ruinIn_13 : decode cL_ruinIn 13 = .ok (.iconst 1, 1) := by decide +kernel
theorem dL_ruinIn_14 : decode cL_ruinIn 14 = .ok (.ireturn, 1) := by decide +kernel
theorem dL_ruinIn_15 : decode cL_ruinIn 15 = .ok (.iconst 0, 1) := by decide +kernel
theorem dL_ruinIn_16 : decode cL_ruinIn 16 = .ok (.ireturn, 1) := by decide +kernel
theorem dL_lost_0 : decode cL_lost 0 = .ok (.aload_n 2, 1) := by decide +kernel
theorem dL_lost_1 : decode cL_lost 1 = .ok (.iconst 0, 1) := by decide +kernel
theorem dL_lost_2 : decode cL_lost 2 = .ok (.aload_n 0, 1) := by decide +kernel
theorem dL_lost_3 : decode cL_lost 3 = .ok (.iload_n 1, 1) := by decide +kernel
theorem dL_lost_4 : decode cL_lost 4 = .ok (.invokevirtual 63, 3) := by decide +kernel
theorem dL_lost_7 : decode cL_lost 7 = .ok (.i2l, 1) := by decide +kernel
theorem dL_lost_8 : decode cL_lost 8 = .ok (.lastore, 1) := by decide +kernel
theorem dL_lost_9 : decode cL_lost 9 = .ok (.goto 6, 3) := by decide +kernel
theorem dL_lost_12 : decode cL_lost 12 = .ok (.astore_n 3, 1) := by decide +kernel
theorem dL_lost_13 : decode cL_lost 13 = .ok (.iconst 1, 1) := by decide +kernel
theorem dL_lost_14 : decode cL_lost 14 = .ok (.ireturn, 1) := by decide +kernel
theorem dL_lost_15 : decode cL_lost 15 = .ok (.iconst 0, 1) := by decide +kernel
theorem dL_lost_16 : decode cL_lost 16 = .ok (.ireturn, 1) := by decide +kernel
theorem dL_seaIn_0 : decode cL_seaIn 0 = .ok (.aload_n 2, 1) := by decide +kernel
theorem dL_seaIn_1 : decode cL_seaIn 1 = .ok (.iconst 0, 1) := by decide +kernel
theorem dL_seaIn_2 : decode cL_seaIn 2 = .ok (.aload_n 0, 1) := by decide +kernel
theorem dL_seaIn_3 : decode cL_seaIn 3 = .ok (.iload_n 1, 1) := by decide +kernel
theorem dL_seaIn_4 : decode cL_seaIn 4 = .ok (.invokevirtual 66, 3) := by decide +kernel
theorem dL_seaIn_7 : decode cL_seaIn 7 = .ok (.i2l, 1) := by decide +kernel
theorem dL_seaIn_8 : decode cL_seaIn 8 = .ok (.lastore, 1) := by decide +kernel
theorem dL_seaIn_9 : decode cL_seaIn 9 = .ok (.goto 6, 3) := by decide +kernel
theorem dL_seaIn_12 : decode cL_seaIn 12 = .ok (.astore_n 3, 1) := by decide +kernel
theorem dL_seaIn_13 : decode cL_seaIn 13 = .ok (.iconst 1, 1) := by decide +kernel
theorem dL_seaIn_14 : decode cL_seaIn 14 = .ok (.ireturn, 1) := by decide +kernel
theorem dL_seaIn_15 : decode cL_seaIn 15 = .ok (.iconst 0, 1) := by decide +kernel
theorem dL_seaIn_16 : decode cL_seaIn 16 = .ok (.ireturn, 1) := by decide +kernel
theorem dL_burden_0 : decode cL_burden 0 = .ok (.aload_n 3, 1) := by decide +kernel
theorem dL_burden_1 : decode cL_burden 1 = .ok (.iconst 0, 1) := by decide +kernel
theorem dL_burden_2 : decode cL_burden 2 = .ok (.aload_n 0, 1) := by decide +kernel
theorem dL_burden_3 : decode cL_burden 3 = .ok (.iload_n 1, 1) := by decide +kernel
theorem dL_burden_4 : decode cL_burden 4 = .ok (.iload_n 2, 1) := by decide +kernel
theorem dL_burden_5 : decode cL_burden 5 = .ok (.invokevirtual 69, 3) := by decide +kernel
theorem dL_burden_8 : decode cL_burden 8 = .ok (.lastore, 1) := by decide +kernel
theorem dL_burden_9 : decode cL_burden 9 = .ok (.goto 11, 3) := by decide +kernel
theorem dL_burden_12 : decode cL_burden 12 = .ok (.astore 4, 2) := by decide +kernel
theorem dL_burden_14 : decode cL_burden 14 = .ok (.iconst 1, 1) := by decide +kernel
theorem dL_burden_15 : decode cL_burden 15 = .ok (.ireturn, 1) := by decide +kernel
theorem dL_burden_16 : decode cL_burden 16 = .ok (.astore 4, 2) := by decide +kernel
theorem dL_burden_18 : decode cL_burden 18 = .ok (.iconst 2, 1) := by decide +kernel
theorem dL_burden_19 : decode cL_burden 19 = .ok (.ireturn, 1) := by decide +kernel
theorem dL_burden_20 : decode cL_burden 20 = .ok (.iconst 0, 1) := by decide +kernel
theorem dL_burden_21 : decode cL_burden 21 = .ok (.ireturn, 1) := by decide +kernel
theorem dL_heaviest_0 : decode cL_heaviest 0 = .ok (.aload_n 2, 1) := by decide +kernel
theorem dL_heaviest_1 : decode cL_heaviest 1 = .ok (.iconst 0, 1) := by decide +kernel
theorem dL_heaviest_2 : decode cL_heaviest 2 = .ok (.aload_n 0, 1) := by decide +kernel
theorem dL_heaviest_3 : decode cL_heaviest 3 = .ok (.iload_n 1, 1) := by decide +kernel
theorem dL_heaviest_4 : decode cL_heaviest 4 = .ok (.invokevirtual 73, 3) := by decide +kernel
theorem dL_heaviest_7 : decode cL_heaviest 7 = .ok (.i2l, 1) := by decide +kernel
theorem dL_heaviest_8 : decode cL_heaviest 8 = .ok (.lastore, 1) := by decide +kernel
theorem dL_heaviest_9 : decode cL_heaviest 9 = .ok (.goto 6, 3) := by decide +kernel
theorem dL_heaviest_12 : decode cL_heaviest 12 = .ok (.astore_n 3, 1) := by decide +kernel
theorem dL_heaviest_13 : decode cL_heaviest 13 = .ok (.iconst 1, 1) := by decide +kernel
theorem dL_heaviest_14 : decode cL_heaviest 14 = .ok (.ireturn, 1) := by decide +kernel
theorem dL_heaviest_15 : decode cL_heaviest 15 = .ok (.iconst 0, 1) := by decide +kernel
theorem dL_heaviest_16 : decode cL_heaviest 16 = .ok (.ireturn, 1) := by decide +kernel
theorem dL_paid_0 : decode cL_paid 0 = .ok (.aload_n 2, 1) := by decide +kernel
theorem dL_paid_1 : decode cL_paid 1 = .ok (.iconst 0, 1) := by decide +kernel
theorem dL_paid_2 : decode cL_paid 2 = .ok (.aload_n 0, 1) := by decide +kernel
theorem dL_paid_3 : decode cL_paid 3 = .ok (.iload_n 1, 1) := by decide +kernel
theorem dL_paid_4 : decode cL_paid 4 = .ok (.invokevirtual 76, 3) := by decide +kernel
theorem dL_paid_7 : decode cL_paid 7 = .ok (.lastore, 1) := by decide +kernel
theorem dL_paid_8 : decode cL_paid 8 = .ok (.goto 6, 3) := by decide +kernel
theorem dL_paid_11 : decode cL_paid 11 = .ok (.astore_n 3, 1) := by decide +kernel
theorem dL_paid_12 : decode cL_paid 12 = .ok (.iconst 1, 1) := by decide +kernel
theorem dL_paid_13 : decode cL_paid 13 = .ok (.ireturn, 1) := by decide +kernel
theorem dL_paid_14 : decode cL_paid 14 = .ok (.iconst 0, 1) := by decide +kernel
theorem dL_paid_15 : decode cL_paid 15 = .ok (.ireturn, 1) := by decide +kernel
theorem dL_order_0 : decode cL_order 0 = .ok (.aload_n 3, 1) := by decide +kernel
theorem dL_order_1 : decode cL_order 1 = .ok (.iconst 0, 1) := by decide +kernel
theorem dL_order_2 : decode cL_order 2 = .ok (.aload_n 0, 1) := by decide +kernel
theorem dL_order_3 : decode cL_order 3 = .ok (.iload_n 1, 1) := by decide +kernel
theorem dL_order_4 : decode cL_order 4 = .ok (.iload_n 2, 1) := by decide +kernel
theorem dL_order_5 : decode cL_order 5 = .ok (.invokevirtual 80, 3) := by decide +kernel
theorem dL_order_8 : decode cL_order 8 = .ok (.i2l, 1) := by decide +kernel
theorem dL_order_9 : decode cL_order 9 = .ok (.lastore, 1) := by decide +kernel
theorem dL_order_10 : decode cL_order 10 = .ok (.goto 7, 3) := by decide +kernel
theorem dL_order_13 : decode cL_order 13 = .ok (.astore 4, 2) := by decide +kernel
theorem dL_order_15 : decode cL_order 15 = .ok (.iconst 1, 1) := by decide +kernel
theorem dL_order_16 : decode cL_order 16 = .ok (.ireturn, 1) := by decide +kernel
theorem dL_order_17 : decode cL_order 17 = .ok (.iconst 0, 1) := by decide +kernel
theorem dL_order_18 : decode cL_order 18 = .ok (.ireturn, 1) := by decide +kernel
theorem dL_orders_0 : decode cL_orders 0 = .ok (.aload_n 2, 1) := by decide +kernel
theorem dL_orders_1 : decode cL_orders 1 = .ok (.iconst 0, 1) := by decide +kernel
theorem dL_orders_2 : decode cL_orders 2 = .ok (.aload_n 0, 1) := by decide +kernel
theorem dL_orders_3 : decode cL_orders 3 = .ok (.iload_n 1, 1) := by decide +kernel
theorem dL_orders_4 : decode cL_orders 4 = .ok (.invokevirtual 83, 3) := by decide +kernel
theorem dL_orders_7 : decode cL_orders 7 = .ok (.i2l, 1) := by decide +kernel
theorem dL_orders_8 : decode cL_orders 8 = .ok (.lastore, 1) := by decide +kernel
theorem dL_orders_9 : decode cL_orders 9 = .ok (.goto 6, 3) := by decide +kernel
theorem dL_orders_12 : decode cL_orders 12 = .ok (.astore_n 3, 1) := by decide +kernel
theorem dL_orders_13 : decode cL_orders 13 = .ok (.iconst 1, 1) := by decide +kernel
theorem dL_orders_14 : decode cL_orders 14 = .ok (.ireturn, 1) := by decide +kernel
theorem dL_orders_15 : decode cL_orders 15 = .ok (.iconst 0, 1) := by decide +kernel
theorem dL_orders_16 : decode cL_orders 16 = .ok (.ireturn, 1) := by decide +kernel
theorem dL_bestSwap_0 : decode cL_bestSwap 0 = .ok (.aload_n 2, 1) := by decide +kernel
theorem dL_bestSwap_1 : decode cL_bestSwap 1 = .ok (.iconst 0, 1) := by decide +kernel
theorem dL_bestSwap_2 : decode cL_bestSwap 2 = .ok (.aload_n 0, 1) := by decide +kernel
theorem dL_bestSwap_3 : decode cL_bestSwap 3 = .ok (.iload_n 1, 1) := by decide +kernel
theorem dL_bestSwap_4 : decode cL_bestSwap 4 = .ok (.invokevirtual 86, 3) := by decide +kernel
theorem dL_bestSwap_7 : decode cL_bestSwap 7 = .ok (.i2l, 1) := by decide +kernel
theorem dL_bestSwap_8 : decode cL_bestSwap 8 = .ok (.lastore, 1) := by decide +kernel
theorem dL_bestSwap_9 : decode cL_bestSwap 9 = .ok (.goto 6, 3) := by decide +kernel
theorem dL_bestSwap_12 : decode cL_bestSwap 12 = .ok (.astore_n 3, 1) := by decide +kernel
theorem dL_bestSwap_13 : decode cL_bestSwap 13 = .ok (.iconst 1, 1) := by decide +kernel
theorem dL_bestSwap_14 : decode cL_bestSwap 14 = .ok (.ireturn, 1) := by decide +kernel
theorem dL_bestSwap_15 : decode cL_bestSwap 15 = .ok (.iconst 0, 1) := by decide +kernel
theorem dL_bestSwap_16 : decode cL_bestSwap 16 = .ok (.ireturn, 1) := by decide +kernel
theorem dL_wouldSwap_0 : decode cL_wouldSwap 0 = .ok (.aload_n 2, 1) := by decide +kernel
theorem dL_wouldSwap_1 : decode cL_wouldSwap 1 = .ok (.iconst 0, 1) := by decide +kernel
theorem dL_wouldSwap_2 : decode cL_wouldSwap 2 = .ok (.aload_n 0, 1) := by decide +kernel
theorem dL_wouldSwap_3 : decode cL_wouldSwap 3 = .ok (.iload_n 1, 1) := by decide +kernel
theorem dL_wouldSwap_4 : decode cL_wouldSwap 4 = .ok (.invokevirtual 89, 3) := by decide +kernel
theorem dL_wouldSwap_7 : decode cL_wouldSwap 7 = .ok (.i2l, 1) := by decide +kernel
theorem dL_wouldSwap_8 : decode cL_wouldSwap 8 = .ok (.lastore, 1) := by decide +kernel
theorem dL_wouldSwap_9 : decode cL_wouldSwap 9 = .ok (.goto 6, 3) := by decide +kernel
theorem dL_wouldSwap_12 : decode cL_wouldSwap 12 = .ok (.astore_n 3, 1) := by decide +kernel
theorem dL_wouldSwap_13 : decode cL_wouldSwap 13 = .ok (.iconst 1, 1) := by decide +kernel
theorem dL_wouldSwap_14 : decode cL_wouldSwap 14 = .ok (.ireturn, 1) := by decide +kernel
theorem dL_wouldSwap_15 : decode cL_wouldSwap 15 = .ok (.iconst 0, 1) := by decide +kernel
theorem dL_wouldSwap_16 : decode cL_wouldSwap 16 = .ok (.ireturn, 1) := by decide +kernel
theorem dL_bestHouse_0 : decode cL_bestHouse 0 = .ok (.aload_n 3, 1) := by decide +kernel
theorem dL_bestHouse_1 : decode cL_bestHouse 1 = .ok (.iconst 0, 1) := by decide +kernel
theorem dL_bestHouse_2 : decode cL_bestHouse 2 = .ok (.aload_n 0, 1) := by decide +kernel
theorem dL_bestHouse_3 : decode cL_bestHouse 3 = .ok (.iload_n 1, 1) := by decide +kernel
theorem dL_bestHouse_4 : decode cL_bestHouse 4 = .ok (.iload_n 2, 1) := by decide +kernel
theorem dL_bestHouse_5 : decode cL_bestHouse 5 = .ok (.invokevirtual 92, 3) := by decide +kernel
theorem dL_bestHouse_8 : decode cL_bestHouse 8 = .ok (.i2l, 1) := by decide +kernel
theorem dL_bestHouse_9 : decode cL_bestHouse 9 = .ok (.lastore, 1) := by decide +kernel
theorem dL_bestHouse_10 : decode cL_bestHouse 10 = .ok (.goto 11, 3) := by decide +kernel
theorem dL_bestHouse_13 : decode cL_bestHouse 13 = .ok (.astore 4, 2) := by decide +kernel
theorem dL_bestHouse_15 : decode cL_bestHouse 15 = .ok (.iconst 1, 1) := by decide +kernel
theorem dL_bestHouse_16 : decode cL_bestHouse 16 = .ok (.ireturn, 1) := by decide +kernel
theorem dL_bestHouse_17 : decode cL_bestHouse 17 = .ok (.astore 4, 2) := by decide +kernel
theorem dL_bestHouse_19 : decode cL_bestHouse 19 = .ok (.iconst 2, 1) := by decide +kernel
theorem dL_bestHouse_20 : decode cL_bestHouse 20 = .ok (.ireturn, 1) := by decide +kernel
theorem dL_bestHouse_21 : decode cL_bestHouse 21 = .ok (.iconst 0, 1) := by decide +kernel
theorem dL_bestHouse_22 : decode cL_bestHouse 22 = .ok (.ireturn, 1) := by decide +kernel
theorem dL_hedges_0 : decode cL_hedges 0 = .ok (.aload 4, 2) := by decide +kernel
theorem dL_hedges_2 : decode cL_hedges 2 = .ok (.iconst 0, 1) := by decide +kernel
theorem dL_hedges_3 : decode cL_hedges 3 = .ok (.aload_n 0, 1) := by decide +kernel
theorem dL_hedges_4 : decode cL_hedges 4 = .ok (.iload_n 1, 1) := by decide +kernel
theorem dL_hedges_5 : decode cL_hedges 5 = .ok (.iload_n 2, 1) := by decide +kernel
theorem dL_hedges_6 : decode cL_hedges 6 = .ok (.iload_n 3, 1) := by decide +kernel
theorem dL_hedges_7 : decode cL_hedges 7 = .ok (.invokevirtual 95, 3) := by decide +kernel
theorem dL_hedges_10 : decode cL_hedges 10 = .ok (.i2l, 1) := by decide +kernel
theorem dL_hedges_11 : decode cL_hedges 11 = .ok (.lastore, 1) := by decide +kernel
theorem dL_hedges_12 : decode cL_hedges 12 = .ok (.goto 15, 3) := by decide +kernel
theorem dL_hedges_15 : decode cL_hedges 15 = .ok (.astore 5, 2) := by decide +kernel
theorem dL_hedges_17 : decode cL_hedges 17 = .ok (.iconst 1, 1) := by decide +kernel
theorem dL_hedges_18 : decode cL_hedges 18 = .ok (.ireturn, 1) := by decide +kernel
theorem dL_hedges_19 : decode cL_hedges 19 = .ok (.astore 5, 2) := by decide +kernel
theorem dL_hedges_21 : decode cL_hedges 21 = .ok (.iconst 2, 1) := by decide +kernel
theorem dL_hedges_22 : decode cL_hedges 22 = .ok (.ireturn, 1) := by decide +kernel
theorem dL_hedges_23 : decode cL_hedges 23 = .ok (.astore 5, 2) := by decide +kernel
theorem dL_hedges_25 : decode cL_hedges 25 = .ok (.iconst 3, 1) := by decide +kernel
theorem dL_hedges_26 : decode cL_hedges 26 = .ok (.ireturn, 1) := by decide +kernel
theorem dL_hedges_27 : decode cL_hedges 27 = .ok (.iconst 0, 1) := by decide +kernel
theorem dL_hedges_28 : decode cL_hedges 28 = .ok (.ireturn, 1) := by decide +kernel
theorem dL_bestHedge_0 : decode cL_bestHedge 0 = .ok (.aload_n 2, 1) := by decide +kernel
theorem dL_bestHedge_1 : decode cL_bestHedge 1 = .ok (.iconst 0, 1) := by decide +kernel
theorem dL_bestHedge_2 : decode cL_bestHedge 2 = .ok (.aload_n 0, 1) := by decide +kernel
theorem dL_bestHedge_3 : decode cL_bestHedge 3 = .ok (.iload_n 1, 1) := by decide +kernel
theorem dL_bestHedge_4 : decode cL_bestHedge 4 = .ok (.invokevirtual 99, 3) := by decide +kernel
theorem dL_bestHedge_7 : decode cL_bestHedge 7 = .ok (.i2l, 1) := by decide +kernel
theorem dL_bestHedge_8 : decode cL_bestHedge 8 = .ok (.lastore, 1) := by decide +kernel
theorem dL_bestHedge_9 : decode cL_bestHedge 9 = .ok (.goto 6, 3) := by decide +kernel
theorem dL_bestHedge_12 : decode cL_bestHedge 12 = .ok (.astore_n 3, 1) := by decide +kernel
theorem dL_bestHedge_13 : decode cL_bestHedge 13 = .ok (.iconst 1, 1) := by decide +kernel
theorem dL_bestHedge_14 : decode cL_bestHedge 14 = .ok (.ireturn, 1) := by decide +kernel
theorem dL_bestHedge_15 : decode cL_bestHedge 15 = .ok (.iconst 0, 1) := by decide +kernel
theorem dL_bestHedge_16 : decode cL_bestHedge 16 = .ok (.ireturn, 1) := by decide +kernel
theorem dL_saves_0 : decode cL_saves 0 = .ok (.aload_n 3, 1) := by decide +kernel
theorem dL_saves_1 : decode cL_saves 1 = .ok (.iconst 0, 1) := by decide +kernel
theorem dL_saves_2 : decode cL_saves 2 = .ok (.aload_n 0, 1) := by decide +kernel
theorem dL_saves_3 : decode cL_saves 3 = .ok (.iload_n 1, 1) := by decide +kernel
theorem dL_saves_4 : decode cL_saves 4 = .ok (.iload_n 2, 1) := by decide +kernel
theorem dL_saves_5 : decode cL_saves 5 = .ok (.invokevirtual 102, 3) := by decide +kernel
theorem dL_saves_8 : decode cL_saves 8 = .ok (.i2l, 1) := by decide +kernel
theorem dL_saves_9 : decode cL_saves 9 = .ok (.lastore, 1) := by decide +kernel
theorem dL_saves_10 : decode cL_saves 10 = .ok (.goto 15, 3) := by decide +kernel
theorem dL_saves_13 : decode cL_saves 13 = .ok (.astore 4, 2) := by decide +kernel
theorem dL_saves_15 : decode cL_saves 15 = .ok (.iconst 1, 1) := by decide +kernel
theorem dL_saves_16 : decode cL_saves 16 = .ok (.ireturn, 1) := by decide +kernel
theorem dL_saves_17 : decode cL_saves 17 = .ok (.astore 4, 2) := by decide +kernel
theorem dL_saves_19 : decode cL_saves 19 = .ok (.iconst 2, 1) := by decide +kernel
theorem dL_saves_20 : decode cL_saves 20 = .ok (.ireturn, 1) := by decide +kernel
theorem dL_saves_21 : decode cL_saves 21 = .ok (.astore 4, 2) := by decide +kernel
theorem dL_saves_23 : decode cL_saves 23 = .ok (.iconst 3, 1) := by decide +kernel
theorem dL_saves_24 : decode cL_saves 24 = .ok (.ireturn, 1) := by decide +kernel
theorem dL_saves_25 : decode cL_saves 25 = .ok (.iconst 0, 1) := by decide +kernel
theorem dL_saves_26 : decode cL_saves 26 = .ok (.ireturn, 1) := by decide +kernel
theorem dL_leastLimit_0 : decode cL_leastLimit 0 = .ok (.aload_n 2, 1) := by decide +kernel
theorem dL_leastLimit_1 : decode cL_leastLimit 1 = .ok (.iconst 0, 1) := by decide +kernel
theorem dL_leastLimit_2 : decode cL_leastLimit 2 = .ok (.aload_n 0, 1) := by decide +kernel
theorem dL_leastLimit_3 : decode cL_leastLimit 3 = .ok (.iload_n 1, 1) := by decide +kernel
theorem dL_leastLimit_4 : decode cL_leastLimit 4 = .ok (.invokevirtual 105, 3) := by decide +kernel
theorem dL_leastLimit_7 : decode cL_leastLimit 7 = .ok (.i2l, 1) := by decide +kernel
theorem dL_leastLimit_8 : decode cL_leastLimit 8 = .ok (.lastore, 1) := by decide +kernel
theorem dL_leastLimit_9 : decode cL_leastLimit 9 = .ok (.goto 6, 3) := by decide +kernel
theorem dL_leastLimit_12 : decode cL_leastLimit 12 = .ok (.astore_n 3, 1) := by decide +kernel
theorem dL_leastLimit_13 : decode cL_leastLimit 13 = .ok (.iconst 1, 1) := by decide +kernel
theorem dL_leastLimit_14 : decode cL_leastLimit 14 = .ok (.ireturn, 1) := by decide +kernel
theorem dL_leastLimit_15 : decode cL_leastLimit 15 = .ok (.iconst 0, 1) := by decide +kernel
theorem dL_leastLimit_16 : decode cL_leastLimit 16 = .ok (.ireturn, 1) := by decide +kernel
theorem dL_worth_0 : decode cL_worth 0 = .ok (.aload_n 3, 1) := by decide +kernel
theorem dL_worth_1 : decode cL_worth 1 = .ok (.iconst 0, 1) := by decide +kernel
theorem dL_worth_2 : decode cL_worth 2 = .ok (.aload_n 0, 1) := by decide +kernel
theorem dL_worth_3 : decode cL_worth 3 = .ok (.iload_n 1, 1) := by decide +kernel
theorem dL_worth_4 : decode cL_worth 4 = .ok (.iload_n 2, 1) := by decide +kernel
theorem dL_worth_5 : decode cL_worth 5 = .ok (.invokevirtual 108, 3) := by decide +kernel
theorem dL_worth_8 : decode cL_worth 8 = .ok (.i2l, 1) := by decide +kernel
theorem dL_worth_9 : decode cL_worth 9 = .ok (.lastore, 1) := by decide +kernel
theorem dL_worth_10 : decode cL_worth 10 = .ok (.goto 15, 3) := by decide +kernel
theorem dL_worth_13 : decode cL_worth 13 = .ok (.astore 4, 2) := by decide +kernel
theorem dL_worth_15 : decode cL_worth 15 = .ok (.iconst 1, 1) := by decide +kernel
theorem dL_worth_16 : decode cL_worth 16 = .ok (.ireturn, 1) := by decide +kernel
theorem dL_worth_17 : decode cL_worth 17 = .ok (.astore 4, 2) := by decide +kernel
theorem dL_worth_19 : decode cL_worth 19 = .ok (.iconst 2, 1) := by decide +kernel
theorem dL_worth_20 : decode cL_worth 20 = .ok (.ireturn, 1) := by decide +kernel
theorem dL_worth_21 : decode cL_worth 21 = .ok (.astore 4, 2) := by decide +kernel
theorem dL_worth_23 : decode cL_worth 23 = .ok (.iconst 3, 1) := by decide +kernel
theorem dL_worth_24 : decode cL_worth 24 = .ok (.ireturn, 1) := by decide +kernel
theorem dL_worth_25 : decode cL_worth 25 = .ok (.iconst 0, 1) := by decide +kernel
theorem dL_worth_26 : decode cL_worth 26 = .ok (.ireturn, 1) := by decide +kernel
theorem dL_pillar_0 : decode cL_pillar 0 = .ok (.aload_n 2, 1) := by decide +kernel
theorem dL_pillar_1 : decode cL_pillar 1 = .ok (.iconst 0, 1) := by decide +kernel
theorem dL_pillar_2 : decode cL_pillar 2 = .ok (.aload_n 0, 1) := by decide +kernel
theorem dL_pillar_3 : decode cL_pillar 3 = .ok (.iload_n 1, 1) := by decide +kernel
theorem dL_pillar_4 : decode cL_pillar 4 = .ok (.invokevirtual 111, 3) := by decide +kernel
theorem dL_pillar_7 : decode cL_pillar 7 = .ok (.i2l, 1) := by decide +kernel
theorem dL_pillar_8 : decode cL_pillar 8 = .ok (.lastore, 1) := by decide +kernel
theorem dL_pillar_9 : decode cL_pillar 9 = .ok (.goto 6, 3) := by decide +kernel
theorem dL_pillar_12 : decode cL_pillar 12 = .ok (.astore_n 3, 1) := by decide +kernel
theorem dL_pillar_13 : decode cL_pillar 13 = .ok (.iconst 1, 1) := by decide +kernel
theorem dL_pillar_14 : decode cL_pillar 14 = .ok (.ireturn, 1) := by decide +kernel
theorem dL_pillar_15 : decode cL_pillar 15 = .ok (.iconst 0, 1) := by decide +kernel
theorem dL_pillar_16 : decode cL_pillar 16 = .ok (.ireturn, 1) := by decide +kernel
theorem dL_seen_0 : decode cL_seen 0 = .ok (.aload_n 3, 1) := by decide +kernel
theorem dL_seen_1 : decode cL_seen 1 = .ok (.iconst 0, 1) := by decide +kernel
theorem dL_seen_2 : decode cL_seen 2 = .ok (.aload_n 0, 1) := by decide +kernel
theorem dL_seen_3 : decode cL_seen 3 = .ok (.iload_n 1, 1) := by decide +kernel
theorem dL_seen_4 : decode cL_seen 4 = .ok (.iload_n 2, 1) := by decide +kernel
theorem dL_seen_5 : decode cL_seen 5 = .ok (.invokevirtual 114, 3) := by decide +kernel
theorem dL_seen_8 : decode cL_seen 8 = .ok (.i2l, 1) := by decide +kernel
theorem dL_seen_9 : decode cL_seen 9 = .ok (.lastore, 1) := by decide +kernel
theorem dL_seen_10 : decode cL_seen 10 = .ok (.goto 15, 3) := by decide +kernel
theorem dL_seen_13 : decode cL_seen 13 = .ok (.astore 4, 2) := by decide +kernel
theorem dL_seen_15 : decode cL_seen 15 = .ok (.iconst 1, 1) := by decide +kernel
theorem dL_seen_16 : decode cL_seen 16 = .ok (.ireturn, 1) := by decide +kernel
theorem dL_seen_17 : decode cL_seen 17 = .ok (.astore 4, 2) := by decide +kernel
theorem dL_seen_19 : decode cL_seen 19 = .ok (.iconst 2, 1) := by decide +kernel
theorem dL_seen_20 : decode cL_seen 20 = .ok (.ireturn, 1) := by decide +kernel
theorem dL_seen_21 : decode cL_seen 21 = .ok (.astore 4, 2) := by decide +kernel
theorem dL_seen_23 : decode cL_seen 23 = .ok (.iconst 3, 1) := by decide +kernel
theorem dL_seen_24 : decode cL_seen 24 = .ok (.ireturn, 1) := by decide +kernel
theorem dL_seen_25 : decode cL_seen 25 = .ok (.iconst 0, 1) := by decide +kernel
theorem dL_seen_26 : decode cL_seen 26 = .ok (.ireturn, 1) := by decide +kernel
theorem dL_hidden_0 : decode cL_hidden 0 = .ok (.aload 4, 2) := by decide +kernel
theorem dL_hidden_2 : decode cL_hidden 2 = .ok (.iconst 0, 1) := by decide +kernel
theorem dL_hidden_3 : decode cL_hidden 3 = .ok (.aload_n 0, 1) := by decide +kernel
theorem dL_hidden_4 : decode cL_hidden 4 = .ok (.iload_n 1, 1) := by decide +kernel
theorem dL_hidden_5 : decode cL_hidden 5 = .ok (.iload_n 2, 1) := by decide +kernel
theorem dL_hidden_6 : decode cL_hidden 6 = .ok (.iload_n 3, 1) := by decide +kernel
theorem dL_hidden_7 : decode cL_hidden 7 = .ok (.invokevirtual 117, 3) := by decide +kernel
theorem dL_hidden_10 : decode cL_hidden 10 = .ok (.i2l, 1) := by decide +kernel
theorem dL_hidden_11 : decode cL_hidden 11 = .ok (.lastore, 1) := by decide +kernel
theorem dL_hidden_12 : decode cL_hidden 12 = .ok (.goto 15, 3) := by decide +kernel
theorem dL_hidden_15 : decode cL_hidden 15 = .ok (.astore 5, 2) := by decide +kernel
theorem dL_hidden_17 : decode cL_hidden 17 = .ok (.iconst 1, 1) := by decide +kernel
theorem dL_hidden_18 : decode cL_hidden 18 = .ok (.ireturn, 1) := by decide +kernel
theorem dL_hidden_19 : decode cL_hidden 19 = .ok (.astore 5, 2) := by decide +kernel
theorem dL_hidden_21 : decode cL_hidden 21 = .ok (.iconst 2, 1) := by decide +kernel
theorem dL_hidden_22 : decode cL_hidden 22 = .ok (.ireturn, 1) := by decide +kernel
theorem dL_hidden_23 : decode cL_hidden 23 = .ok (.astore 5, 2) := by decide +kernel
theorem dL_hidden_25 : decode cL_hidden 25 = .ok (.iconst 3, 1) := by decide +kernel
theorem dL_hidden_26 : decode cL_hidden 26 = .ok (.ireturn, 1) := by decide +kernel
theorem dL_hidden_27 : decode cL_hidden 27 = .ok (.iconst 0, 1) := by decide +kernel
theorem dL_hidden_28 : decode cL_hidden 28 = .ok (.ireturn, 1) := by decide +kernel
theorem dL_look_0 : decode cL_look 0 = .ok (.aload_n 3, 1) := by decide +kernel
theorem dL_look_1 : decode cL_look 1 = .ok (.iconst 0, 1) := by decide +kernel
theorem dL_look_2 : decode cL_look 2 = .ok (.aload_n 0, 1) := by decide +kernel
theorem dL_look_3 : decode cL_look 3 = .ok (.iload_n 1, 1) := by decide +kernel
theorem dL_look_4 : decode cL_look 4 = .ok (.iload_n 2, 1) := by decide +kernel
theorem dL_look_5 : decode cL_look 5 = .ok (.invokevirtual 120, 3) := by decide +kernel
theorem dL_look_8 : decode cL_look 8 = .ok (.i2l, 1) := by decide +kernel
theorem dL_look_9 : decode cL_look 9 = .ok (.lastore, 1) := by decide +kernel
theorem dL_look_10 : decode cL_look 10 = .ok (.goto 15, 3) := by decide +kernel
theorem dL_look_13 : decode cL_look 13 = .ok (.astore 4, 2) := by decide +kernel
theorem dL_look_15 : decode cL_look 15 = .ok (.iconst 1, 1) := by decide +kernel
theorem dL_look_16 : decode cL_look 16 = .ok (.ireturn, 1) := by decide +kernel
theorem dL_look_17 : decode cL_look 17 = .ok (.astore 4, 2) := by decide +kernel
theorem dL_look_19 : decode cL_look 19 = .ok (.iconst 2, 1) := by decide +kernel
theorem dL_look_20 : decode cL_look 20 = .ok (.ireturn, 1) := by decide +kernel
theorem dL_look_21 : decode cL_look 21 = .ok (.astore 4, 2) := by decide +kernel
theorem dL_look_23 : decode cL_look 23 = .ok (.iconst 3, 1) := by decide +kernel
theorem dL_look_24 : decode cL_look 24 = .ok (.ireturn, 1) := by decide +kernel
theorem dL_look_25 : decode cL_look 25 = .ok (.iconst 0, 1) := by decide +kernel
theorem dL_look_26 : decode cL_look 26 = .ok (.ireturn, 1) := by decide +kernel
theorem dL_tray_0 : decode cL_tray 0 = .ok (.aload_n 0, 1) := by decide +kernel
theorem dL_tray_1 : decode cL_tray 1 = .ok (.iload_n 1, 1) := by decide +kernel
theorem dL_tray_2 : decode cL_tray 2 = .ok (.iload_n 2, 1) := by decide +kernel
theorem dL_tray_3 : decode cL_tray 3 = .ok (.iload_n 3, 1) := by decide +kernel
theorem dL_tray_4 : decode cL_tray 4 = .ok (.invokevirtual 123, 3) := by decide +kernel
theorem dL_tray_7 : decode cL_tray 7 = .ok (.goto 11, 3) := by decide +kernel
theorem dL_tray_10 : decode cL_tray 10 = .ok (.astore 4, 2) := by decide +kernel
theorem dL_tray_12 : decode cL_tray 12 = .ok (.iconst 1, 1) := by decide +kernel
theorem dL_tray_13 : decode cL_tray 13 = .ok (.ireturn, 1) := by decide +kernel
theorem dL_tray_14 : decode cL_tray 14 = .ok (.astore 4, 2) := by decide +kernel
theorem dL_tray_16 : decode cL_tray 16 = .ok (.iconst 2, 1) := by decide +kernel
theorem dL_tray_17 : decode cL_tray 17 = .ok (.ireturn, 1) := by decide +kernel
theorem dL_tray_18 : decode cL_tray 18 = .ok (.iconst 0, 1) := by decide +kernel
theorem dL_tray_19 : decode cL_tray 19 = .ok (.ireturn, 1) := by decide +kernel
theorem dL_write_0 : decode cL_write 0 = .ok (.aload 5, 2) := by decide +kernel
theorem dL_write_2 : decode cL_write 2 = .ok (.iconst 0, 1) := by decide +kernel
theorem dL_write_3 : decode cL_write 3 = .ok (.aload_n 0, 1) := by decide +kernel
theorem dL_write_4 : decode cL_write 4 = .ok (.iload_n 1, 1) := by decide +kernel
theorem dL_write_5 : decode cL_write 5 = .ok (.iload_n 2, 1) := by decide +kernel
theorem dL_write_6 : decode cL_write 6 = .ok (.lload_n 3, 1) := by decide +kernel
theorem dL_write_7 : decode cL_write 7 = .ok (.invokevirtual 127, 3) := by decide +kernel
theorem dL_write_10 : decode cL_write 10 = .ok (.lastore, 1) := by decide +kernel
theorem dL_write_11 : decode cL_write 11 = .ok (.goto 15, 3) := by decide +kernel
theorem dL_write_14 : decode cL_write 14 = .ok (.astore 6, 2) := by decide +kernel
theorem dL_write_16 : decode cL_write 16 = .ok (.iconst 1, 1) := by decide +kernel
theorem dL_write_17 : decode cL_write 17 = .ok (.ireturn, 1) := by decide +kernel
theorem dL_write_18 : decode cL_write 18 = .ok (.astore 6, 2) := by decide +kernel
theorem dL_write_20 : decode cL_write 20 = .ok (.iconst 2, 1) := by decide +kernel
theorem dL_write_21 : decode cL_write 21 = .ok (.ireturn, 1) := by decide +kernel
theorem dL_write_22 : decode cL_write 22 = .ok (.astore 6, 2) := by decide +kernel
theorem dL_write_24 : decode cL_write 24 = .ok (.iconst 3, 1) := by decide +kernel
theorem dL_write_25 : decode cL_write 25 = .ok (.ireturn, 1) := by decide +kernel
theorem dL_write_26 : decode cL_write 26 = .ok (.iconst 0, 1) := by decide +kernel
theorem dL_write_27 : decode cL_write 27 = .ok (.ireturn, 1) := by decide +kernel
theorem dL_copy_0 : decode cL_copy 0 = .ok (.aload_n 3, 1) := by decide +kernel
theorem dL_copy_1 : decode cL_copy 1 = .ok (.iconst 0, 1) := by decide +kernel
theorem dL_copy_2 : decode cL_copy 2 = .ok (.aload_n 0, 1) := by decide +kernel
theorem dL_copy_3 : decode cL_copy 3 = .ok (.iload_n 1, 1) := by decide +kernel
theorem dL_copy_4 : decode cL_copy 4 = .ok (.iload_n 2, 1) := by decide +kernel
theorem dL_copy_5 : decode cL_copy 5 = .ok (.invokevirtual 133, 3) := by decide +kernel
theorem dL_copy_8 : decode cL_copy 8 = .ok (.i2l, 1) := by decide +kernel
theorem dL_copy_9 : decode cL_copy 9 = .ok (.lastore, 1) := by decide +kernel
theorem dL_copy_10 : decode cL_copy 10 = .ok (.goto 11, 3) := by decide +kernel
theorem dL_copy_13 : decode cL_copy 13 = .ok (.astore 4, 2) := by decide +kernel
theorem dL_copy_15 : decode cL_copy 15 = .ok (.iconst 1, 1) := by decide +kernel
theorem dL_copy_16 : decode cL_copy 16 = .ok (.ireturn, 1) := by decide +kernel
theorem dL_copy_17 : decode cL_copy 17 = .ok (.astore 4, 2) := by decide +kernel
theorem dL_copy_19 : decode cL_copy 19 = .ok (.iconst 2, 1) := by decide +kernel
theorem dL_copy_20 : decode cL_copy 20 = .ok (.ireturn, 1) := by decide +kernel
theorem dL_copy_21 : decode cL_copy 21 = .ok (.iconst 0, 1) := by decide +kernel
theorem dL_copy_22 : decode cL_copy 22 = .ok (.ireturn, 1) := by decide +kernel
theorem dL_image_0 : decode cL_image 0 = .ok (.aload_n 0, 1) := by decide +kernel
theorem dL_image_1 : decode cL_image 1 = .ok (.iload_n 1, 1) := by decide +kernel
theorem dL_image_2 : decode cL_image 2 = .ok (.invokevirtual 136, 3) := by decide +kernel
theorem dL_image_5 : decode cL_image 5 = .ok (.goto 6, 3) := by decide +kernel
theorem dL_image_8 : decode cL_image 8 = .ok (.astore_n 2, 1) := by decide +kernel
theorem dL_image_9 : decode cL_image 9 = .ok (.iconst 1, 1) := by decide +kernel
theorem dL_image_10 : decode cL_image 10 = .ok (.ireturn, 1) := by decide +kernel
theorem dL_image_11 : decode cL_image 11 = .ok (.iconst 0, 1) := by decide +kernel
theorem dL_image_12 : decode cL_image 12 = .ok (.ireturn, 1) := by decide +kernel
theorem dL_restore_0 : decode cL_restore 0 = .ok (.aload_n 0, 1) := by decide +kernel
theorem dL_restore_1 : decode cL_restore 1 = .ok (.iload_n 1, 1) := by decide +kernel
theorem dL_restore_2 : decode cL_restore 2 = .ok (.invokevirtual 140, 3) := by decide +kernel
theorem dL_restore_5 : decode cL_restore 5 = .ok (.goto 9, 3) := by decide +kernel
theorem dL_restore_8 : decode cL_restore 8 = .ok (.astore_n 2, 1) := by decide +kernel
theorem dL_restore_9 : decode cL_restore 9 = .ok (.iconst 1, 1) := by decide +kernel
theorem dL_restore_10 : decode cL_restore 10 = .ok (.ireturn, 1) := by decide +kernel
theorem dL_restore_11 : decode cL_restore 11 = .ok (.astore_n 2, 1) := by decide +kernel
theorem dL_restore_12 : decode cL_restore 12 = .ok (.iconst 2, 1) := by decide +kernel
theorem dL_restore_13 : decode cL_restore 13 = .ok (.ireturn, 1) := by decide +kernel
theorem dL_restore_14 : decode cL_restore 14 = .ok (.iconst 0, 1) := by decide +kernel
theorem dL_restore_15 : decode cL_restore 15 = .ok (.ireturn, 1) := by decide +kernel
