theorem dL_at_0 : decode cL_at 0 = .ok (.iload_n 1, 1) := by decide +kernel
theorem dL_at_1 : decode cL_at 1 = .ok (.aload_n 0, 1) := by decide +kernel
theorem dL_at_2 : decode cL_at 2 = .ok (.arraylength, 1) := by decide +kernel
theorem dL_at_3 : decode cL_at 3 = .ok (.if_icmp .ge 9, 3) := by decide +kernel
theorem dL_at_6 : decode cL_at 6 = .ok (.aload_n 0, 1) := by decide +kernel
theorem dL_at_7 : decode cL_at 7 = .ok (.iload_n 1, 1) := by decide +kernel
theorem dL_at_8 : decode cL_at 8 = .ok (.iaload, 1) := by decide +kernel
theorem dL_at_9 : decode cL_at 9 = .ok (.goto 4, 3) := by decide +kernel
theorem dL_at_12 : decode cL_at 12 = .ok (.iconst 0, 1) := by decide +kernel
theorem dL_at_13 : decode cL_at 13 = .ok (.ireturn, 1) := by decide +kernel
theorem dL_some_0 : decode cL_some 0 = .ok (.iload_n 0, 1) := by decide +kernel
theorem dL_some_1 : decode cL_some 1 = .ok (.iload_n 1, 1) := by decide +kernel
theorem dL_some_2 : decode cL_some 2 = .ok (.irem, 1) := by decide +kernel
theorem dL_some_3 : decode cL_some 3 = .ok (.istore_n 2, 1) := by decide +kernel
theorem dL_some_4 : decode cL_some 4 = .ok (.iload_n 2, 1) := by decide +kernel
theorem dL_some_5 : decode cL_some 5 = .ok (.ifCond .ge 9, 3) := by decide +kernel
theorem dL_some_8 : decode cL_some 8 = .ok (.iload_n 2, 1) := by decide +kernel
theorem dL_some_9 : decode cL_some 9 = .ok (.iload_n 1, 1) := by decide +kernel
theorem dL_some_10 : decode cL_some 10 = .ok (.iadd, 1) := by decide +kernel
theorem dL_some_11 : decode cL_some 11 = .ok (.goto 4, 3) := by decide +kernel
theorem dL_some_14 : decode cL_some 14 = .ok (.iload_n 2, 1) := by decide +kernel
theorem dL_some_15 : decode cL_some 15 = .ok (.ireturn, 1) := by decide +kernel
theorem dL_stake_0 : decode cL_stake 0 = .ok (.aload_n 0, 1) := by decide +kernel
theorem dL_stake_1 : decode cL_stake 1 = .ok (.iload_n 1, 1) := by decide +kernel
theorem dL_stake_2 : decode cL_stake 2 = .ok (.invokevirtual 7, 3) := by decide +kernel
theorem dL_stake_5 : decode cL_stake 5 = .ok (.ireturn, 1) := by decide +kernel
theorem dL_stake_6 : decode cL_stake 6 = .ok (.astore_n 2, 1) := by decide +kernel
theorem dL_stake_7 : decode cL_stake 7 = .ok (.sipush (-1001), 3) := by decide +kernel
theorem dL_stake_10 : decode cL_stake 10 = .ok (.ireturn, 1) := by decide +kernel
theorem dL_post_0 : decode cL_post 0 = .ok (.aload_n 0, 1) := by decide +kernel
theorem dL_post_1 : decode cL_post 1 = .ok (.iload_n 1, 1) := by decide +kernel
theorem dL_post_2 : decode cL_post 2 = .ok (.iload_n 2, 1) := by decide +kernel
theorem dL_post_3 : decode cL_post 3 = .ok (.invokevirtual 15, 3) := by decide +kernel
theorem dL_post_6 : decode cL_post 6 = .ok (.ireturn, 1) := by decide +kernel
theorem dL_post_7 : decode cL_post 7 = .ok (.astore_n 3, 1) := by decide +kernel
theorem dL_post_8 : decode cL_post 8 = .ok (.sipush (-1001), 3) := by decide +kernel
theorem dL_post_11 : decode cL_post 11 = .ok (.ireturn, 1) := by decide +kernel
theorem dL_sheet_0 : decode cL_sheet 0 = .ok (.aload_n 0, 1) := by decide +kernel
theorem dL_sheet_1 : decode cL_sheet 1 = .ok (.invokevirtual 19, 3) := by decide +kernel
theorem dL_sheet_4 : decode cL_sheet 4 = .ok (.ireturn, 1) := by decide +kernel
theorem dL_sheet_5 : decode cL_sheet 5 = .ok (.astore_n 1, 1) := by decide +kernel
theorem dL_sheet_6 : decode cL_sheet 6 = .ok (.sipush (-1001), 3) := by decide +kernel
theorem dL_sheet_9 : decode cL_sheet 9 = .ok (.ireturn, 1) := by decide +kernel
theorem dL_heat_0 : decode cL_heat 0 = .ok (.aload_n 0, 1) := by decide +kernel
theorem dL_heat_1 : decode cL_heat 1 = .ok (.iload_n 1, 1) := by decide +kernel
theorem dL_heat_2 : decode cL_heat 2 = .ok (.invokevirtual 23, 3) := by decide +kernel
theorem dL_heat_5 : decode cL_heat 5 = .ok (.ireturn, 1) := by decide +kernel
theorem dL_heat_6 : decode cL_heat 6 = .ok (.astore_n 2, 1) := by decide +kernel
theorem dL_heat_7 : decode cL_heat 7 = .ok (.sipush (-1001), 3) := by decide +kernel
theorem dL_heat_10 : decode cL_heat 10 = .ok (.ireturn, 1) := by decide +kernel
theorem dL_sight_0 : decode cL_sight 0 = .ok (.aload_n 0, 1) := by decide +kernel
theorem dL_sight_1 : decode cL_sight 1 = .ok (.iload_n 1, 1) := by decide +kernel
theorem dL_sight_2 : decode cL_sight 2 = .ok (.iload_n 2, 1) := by decide +kernel
theorem dL_sight_3 : decode cL_sight 3 = .ok (.iload_n 3, 1) := by decide +kernel
theorem dL_sight_4 : decode cL_sight 4 = .ok (.invokevirtual 26, 3) := by decide +kernel
theorem dL_sight_7 : decode cL_sight 7 = .ok (.ireturn, 1) := by decide +kernel
theorem dL_sight_8 : decode cL_sight 8 = .ok (.astore 4, 2) := by decide +kernel
theorem dL_sight_10 : decode cL_sight 10 = .ok (.sipush (-1001), 3) := by decide +kernel
theorem dL_sight_13 : decode cL_sight 13 = .ok (.ireturn, 1) := by decide +kernel
theorem dL_erase_0 : decode cL_erase 0 = .ok (.aload_n 0, 1) := by decide +kernel
theorem dL_erase_1 : decode cL_erase 1 = .ok (.iload_n 1, 1) := by decide +kernel
theorem dL_erase_2 : decode cL_erase 2 = .ok (.iload_n 2, 1) := by decide +kernel
theorem dL_erase_3 : decode cL_erase 3 = .ok (.invokevirtual 30, 3) := by decide +kernel
theorem dL_erase_6 : decode cL_erase 6 = .ok (.ireturn, 1) := by decide +kernel
theorem dL_erase_7 : decode cL_erase 7 = .ok (.astore_n 3, 1) := by decide +kernel
theorem dL_erase_8 : decode cL_erase 8 = .ok (.sipush (-1001), 3) := by decide +kernel
theorem dL_erase_11 : decode cL_erase 11 = .ok (.ireturn, 1) := by decide +kernel
theorem dL_camel_0 : decode cL_camel 0 = .ok (.aload_n 0, 1) := by decide +kernel
theorem dL_camel_1 : decode cL_camel 1 = .ok (.iload_n 1, 1) := by decide +kernel
theorem dL_camel_2 : decode cL_camel 2 = .ok (.invokevirtual 33, 3) := by decide +kernel
theorem dL_camel_5 : decode cL_camel 5 = .ok (.ireturn, 1) := by decide +kernel
theorem dL_camel_6 : decode cL_camel 6 = .ok (.astore_n 2, 1) := by decide +kernel
theorem dL_camel_7 : decode cL_camel 7 = .ok (.sipush (-1001), 3) := by decide +kernel
theorem dL_camel_10 : decode cL_camel 10 = .ok (.ireturn, 1) := by decide +kernel
theorem dL_bell_0 : decode cL_bell 0 = .ok (.aload_n 0, 1) := by decide +kernel
theorem dL_bell_1 : decode cL_bell 1 = .ok (.iload_n 1, 1) := by decide +kernel
theorem dL_bell_2 : decode cL_bell 2 = .ok (.invokevirtual 36, 3) := by decide +kernel
theorem dL_bell_5 : decode cL_bell 5 = .ok (.ireturn, 1) := by decide +kernel
theorem dL_bell_6 : decode cL_bell 6 = .ok (.astore_n 2, 1) := by decide +kernel
theorem dL_bell_7 : decode cL_bell 7 = .ok (.sipush (-1001), 3) := by decide +kernel
theorem dL_bell_10 : decode cL_bell 10 = .ok (.ireturn, 1) := by decide +kernel
theorem dL_tie_0 : decode cL_tie 0 = .ok (.aload_n 0, 1) := by decide +kernel
theorem dL_tie_1 : decode cL_tie 1 = .ok (.iload_n 1, 1) := by decide +kernel
theorem dL_tie_2 : decode cL_tie 2 = .ok (.invokevirtual 39, 3) := by decide +kernel
theorem dL_tie_5 : decode cL_tie 5 = .ok (.ireturn, 1) := by decide +kernel
theorem dL_tie_6 : decode cL_tie 6 = .ok (.astore_n 2, 1) := by decide +kernel
theorem dL_tie_7 : decode cL_tie 7 = .ok (.sipush (-1001), 3) := by decide +kernel
theorem dL_tie_10 : decode cL_tie 10 = .ok (.ireturn, 1) := by decide +kernel
theorem dL_loose_0 : decode cL_loose 0 = .ok (.aload_n 0, 1) := by decide +kernel
theorem dL_loose_1 : decode cL_loose 1 = .ok (.iload_n 1, 1) := by decide +kernel
theorem dL_loose_2 : decode cL_loose 2 = .ok (.invokevirtual 42, 3) := by decide +kernel
theorem dL_loose_5 : decode cL_loose 5 = .ok (.ireturn, 1) := by decide +kernel
theorem dL_loose_6 : decode cL_loose 6 = .ok (.astore_n 2, 1) := by decide +kernel
theorem dL_loose_7 : decode cL_loose 7 = .ok (.sipush (-1001), 3) := by decide +kernel
theorem dL_loose_10 : decode cL_loose 10 = .ok (.ireturn, 1) := by decide +kernel
theorem dL_drink_0 : decode cL_drink 0 = .ok (.aload_n 0, 1) := by decide +kernel
theorem dL_drink_1 : decode cL_drink 1 = .ok (.iload_n 1, 1) := by decide +kernel
theorem dL_drink_2 : decode cL_drink 2 = .ok (.invokevirtual 45, 3) := by decide +kernel
theorem dL_drink_5 : decode cL_drink 5 = .ok (.ireturn, 1) := by decide +kernel
theorem dL_drink_6 : decode cL_drink 6 = .ok (.astore_n 2, 1) := by decide +kernel
theorem dL_drink_7 : decode cL_drink 7 = .ok (.sipush (-1001), 3) := by decide +kernel
theorem dL_drink_10 : decode cL_drink 10 = .ok (.ireturn, 1) := by decide +kernel
theorem dL_water_0 : decode cL_water 0 = .ok (.aload_n 0, 1) := by decide +kernel
theorem dL_water_1 : decode cL_water 1 = .ok (.iload_n 1, 1) := by decide +kernel
theorem dL_water_2 : decode cL_water 2 = .ok (.invokevirtual 48, 3) := by decide +kernel
theorem dL_water_5 : decode cL_water 5 = .ok (.ireturn, 1) := by decide +kernel
theorem dL_water_6 : decode cL_water 6 = .ok (.astore_n 2, 1) := by decide +kernel
theorem dL_water_7 : decode cL_water 7 = .ok (.sipush (-1001), 3) := by decide +kernel
theorem dL_water_10 : decode cL_water 10 = .ok (.ireturn, 1) := by decide +kernel
theorem dL_hours_0 : decode cL_hours 0 = .ok (.aload_n 0, 1) := by decide +kernel
theorem dL_hours_1 : decode cL_hours 1 = .ok (.iload_n 1, 1) := by decide +kernel
theorem dL_hours_2 : decode cL_hours 2 = .ok (.invokevirtual 51, 3) := by decide +kernel
theorem dL_hours_5 : decode cL_hours 5 = .ok (.ireturn, 1) := by decide +kernel
theorem dL_hours_6 : decode cL_hours 6 = .ok (.astore_n 2, 1) := by decide +kernel
theorem dL_hours_7 : decode cL_hours 7 = .ok (.sipush (-1001), 3) := by decide +kernel
theorem dL_hours_10 : decode cL_hours 10 = .ok (.ireturn, 1) := by decide +kernel
theorem dL_stakeAt_0 : decode cL_stakeAt 0 = .ok (.aload_n 0, 1) := by decide +kernel
theorem dL_stakeAt_1 : decode cL_stakeAt 1 = .ok (.iload_n 1, 1) := by decide +kernel
theorem dL_stakeAt_2 : decode cL_stakeAt 2 = .ok (.invokevirtual 54, 3) := by decide +kernel
theorem dL_stakeAt_5 : decode cL_stakeAt 5 = .ok (.ireturn, 1) := by decide +kernel
theorem dL_stakeAt_6 : decode cL_stakeAt 6 = .ok (.astore_n 2, 1) := by decide +kernel
theorem dL_stakeAt_7 : decode cL_stakeAt 7 = .ok (.sipush (-1001), 3) := by decide +kernel
theorem dL_stakeAt_10 : decode cL_stakeAt 10 = .ok (.ireturn, 1) := by decide +kernel
theorem dL_postOf_0 : decode cL_postOf 0 = .ok (.aload_n 0, 1) := by decide +kernel
theorem dL_postOf_1 : decode cL_postOf 1 = .ok (.iload_n 1, 1) := by decide +kernel
theorem dL_postOf_2 : decode cL_postOf 2 = .ok (.iload_n 2, 1) := by decide +kernel
theorem dL_postOf_3 : decode cL_postOf 3 = .ok (.invokevirtual 59, 3) := by decide +kernel
theorem dL_postOf_6 : decode cL_postOf 6 = .ok (.ireturn, 1) := by decide +kernel
theorem dL_postOf_7 : decode cL_postOf 7 = .ok (.astore_n 3, 1) := by decide +kernel
theorem dL_postOf_8 : decode cL_postOf 8 = .ok (.sipush (-1001), 3) := by decide +kernel
theorem dL_postOf_11 : decode cL_postOf 11 = .ok (.ireturn, 1) := by decide +kernel
theorem dL_camelOf_0 : decode cL_camelOf 0 = .ok (.aload_n 0, 1) := by decide +kernel
theorem dL_camelOf_1 : decode cL_camelOf 1 = .ok (.iload_n 1, 1) := by decide +kernel
theorem dL_camelOf_2 : decode cL_camelOf 2 = .ok (.iload_n 2, 1) := by decide +kernel
theorem dL_camelOf_3 : decode cL_camelOf 3 = .ok (.invokevirtual 63, 3) := by decide +kernel
theorem dL_camelOf_6 : decode cL_camelOf 6 = .ok (.ireturn, 1) := by decide +kernel
theorem dL_camelOf_7 : decode cL_camelOf 7 = .ok (.astore_n 3, 1) := by decide +kernel
theorem dL_camelOf_8 : decode cL_camelOf 8 = .ok (.sipush (-1001), 3) := by decide +kernel
theorem dL_camelOf_11 : decode cL_camelOf 11 = .ok (.ireturn, 1) := by decide +kernel
theorem dL_camelOf_12 : decode cL_camelOf 12 = .ok (.astore_n 3, 1) := by decide +kernel
theorem dL_camelOf_13 : decode cL_camelOf 13 = .ok (.sipush (-1002), 3) := by decide +kernel
theorem dL_camelOf_16 : decode cL_camelOf 16 = .ok (.ireturn, 1) := by decide +kernel
theorem dL_drawnAt_0 : decode cL_drawnAt 0 = .ok (.aload_n 0, 1) := by decide +kernel
theorem dL_drawnAt_1 : decode cL_drawnAt 1 = .ok (.iload_n 1, 1) := by decide +kernel
theorem dL_drawnAt_2 : decode cL_drawnAt 2 = .ok (.iload_n 2, 1) := by decide +kernel
theorem dL_drawnAt_3 : decode cL_drawnAt 3 = .ok (.invokevirtual 68, 3) := by decide +kernel
theorem dL_drawnAt_6 : decode cL_drawnAt 6 = .ok (.ireturn, 1) := by decide +kernel
theorem dL_drawnAt_7 : decode cL_drawnAt 7 = .ok (.astore_n 3, 1) := by decide +kernel
theorem dL_drawnAt_8 : decode cL_drawnAt 8 = .ok (.sipush (-1001), 3) := by decide +kernel
theorem dL_drawnAt_11 : decode cL_drawnAt 11 = .ok (.ireturn, 1) := by decide +kernel
theorem dL_drawnAt_12 : decode cL_drawnAt 12 = .ok (.astore_n 3, 1) := by decide +kernel
theorem dL_drawnAt_13 : decode cL_drawnAt 13 = .ok (.sipush (-1002), 3) := by decide +kernel
theorem dL_drawnAt_16 : decode cL_drawnAt 16 = .ok (.ireturn, 1) := by decide +kernel
theorem dL_wrongBy_0 : decode cL_wrongBy 0 = .ok (.aload_n 0, 1) := by decide +kernel
theorem dL_wrongBy_1 : decode cL_wrongBy 1 = .ok (.iload_n 1, 1) := by decide +kernel
theorem dL_wrongBy_2 : decode cL_wrongBy 2 = .ok (.invokevirtual 73, 3) := by decide +kernel
theorem dL_wrongBy_5 : decode cL_wrongBy 5 = .ok (.ireturn, 1) := by decide +kernel
theorem dL_wrongBy_6 : decode cL_wrongBy 6 = .ok (.astore_n 2, 1) := by decide +kernel
theorem dL_wrongBy_7 : decode cL_wrongBy 7 = .ok (.sipush (-1001), 3) := by decide +kernel
theorem dL_wrongBy_10 : decode cL_wrongBy 10 = .ok (.ireturn, 1) := by decide +kernel
theorem dL_seems_0 : decode cL_seems 0 = .ok (.aload_n 0, 1) := by decide +kernel
theorem dL_seems_1 : decode cL_seems 1 = .ok (.iload_n 1, 1) := by decide +kernel
theorem dL_seems_2 : decode cL_seems 2 = .ok (.iload_n 2, 1) := by decide +kernel
theorem dL_seems_3 : decode cL_seems 3 = .ok (.invokevirtual 76, 3) := by decide +kernel
theorem dL_seems_6 : decode cL_seems 6 = .ok (.ireturn, 1) := by decide +kernel
theorem dL_seems_7 : decode cL_seems 7 = .ok (.astore_n 3, 1) := by decide +kernel
theorem dL_seems_8 : decode cL_seems 8 = .ok (.sipush (-1001), 3) := by decide +kernel
theorem dL_seems_11 : decode cL_seems 11 = .ok (.ireturn, 1) := by decide +kernel
theorem dL_seemsAgain_0 : decode cL_seemsAgain 0 = .ok (.aload_n 0, 1) := by decide +kernel
theorem dL_seemsAgain_1 : decode cL_seemsAgain 1 = .ok (.iload_n 1, 1) := by decide +kernel
theorem dL_seemsAgain_2 : decode cL_seemsAgain 2 = .ok (.iload_n 2, 1) := by decide +kernel
theorem dL_seemsAgain_3 : decode cL_seemsAgain 3 = .ok (.invokevirtual 79, 3) := by decide +kernel
theorem dL_seemsAgain_6 : decode cL_seemsAgain 6 = .ok (.ireturn, 1) := by decide +kernel
theorem dL_seemsAgain_7 : decode cL_seemsAgain 7 = .ok (.astore_n 3, 1) := by decide +kernel
theorem dL_seemsAgain_8 : decode cL_seemsAgain 8 = .ok (.sipush (-1001), 3) := by decide +kernel
theorem dL_seemsAgain_11 : decode cL_seemsAgain 11 = .ok (.ireturn, 1) := by decide +kernel
theorem dL_shimmers_0 : decode cL_shimmers 0 = .ok (.aload_n 0, 1) := by decide +kernel
theorem dL_shimmers_1 : decode cL_shimmers 1 = .ok (.iload_n 1, 1) := by decide +kernel
theorem dL_shimmers_2 : decode cL_shimmers 2 = .ok (.iload_n 2, 1) := by decide +kernel
theorem dL_shimmers_3 : decode cL_shimmers 3 = .ok (.invokevirtual 82, 3) := by decide +kernel
theorem dL_shimmers_6 : decode cL_shimmers 6 = .ok (.ifCond .eq 7, 3) := by decide +kernel
theorem dL_shimmers_9 : decode cL_shimmers 9 = .ok (.iconst 1, 1) := by decide +kernel
theorem dL_shimmers_10 : decode cL_shimmers 10 = .ok (.goto 4, 3) := by decide +kernel
theorem dL_shimmers_13 : decode cL_shimmers 13 = .ok (.iconst 0, 1) := by decide +kernel
theorem dL_shimmers_14 : decode cL_shimmers 14 = .ok (.ireturn, 1) := by decide +kernel
theorem dL_shimmers_15 : decode cL_shimmers 15 = .ok (.astore_n 3, 1) := by decide +kernel
theorem dL_shimmers_16 : decode cL_shimmers 16 = .ok (.sipush (-1001), 3) := by decide +kernel
theorem dL_shimmers_19 : decode cL_shimmers 19 = .ok (.ireturn, 1) := by decide +kernel
theorem dL_bestPost_0 : decode cL_bestPost 0 = .ok (.aload_n 0, 1) := by decide +kernel
theorem dL_bestPost_1 : decode cL_bestPost 1 = .ok (.iload_n 1, 1) := by decide +kernel
theorem dL_bestPost_2 : decode cL_bestPost 2 = .ok (.invokevirtual 86, 3) := by decide +kernel
theorem dL_bestPost_5 : decode cL_bestPost 5 = .ok (.ireturn, 1) := by decide +kernel
theorem dL_bestPost_6 : decode cL_bestPost 6 = .ok (.astore_n 2, 1) := by decide +kernel
theorem dL_bestPost_7 : decode cL_bestPost 7 = .ok (.sipush (-1001), 3) := by decide +kernel
theorem dL_bestPost_10 : decode cL_bestPost 10 = .ok (.ireturn, 1) := by decide +kernel
theorem dL_bestPost_11 : decode cL_bestPost 11 = .ok (.astore_n 2, 1) := by decide +kernel
theorem dL_bestPost_12 : decode cL_bestPost 12 = .ok (.sipush (-1002), 3) := by decide +kernel
theorem dL_bestPost_15 : decode cL_bestPost 15 = .ok (.ireturn, 1) := by decide +kernel
theorem dL_clearIn_0 : decode cL_clearIn 0 = .ok (.aload_n 0, 1) := by decide +kernel
theorem dL_clearIn_1 : decode cL_clearIn 1 = .ok (.iload_n 1, 1) := by decide +kernel
theorem dL_clearIn_2 : decode cL_clearIn 2 = .ok (.iload_n 2, 1) := by decide +kernel
theorem dL_clearIn_3 : decode cL_clearIn 3 = .ok (.invokevirtual 89, 3) := by decide +kernel
theorem dL_clearIn_6 : decode cL_clearIn 6 = .ok (.ireturn, 1) := by decide +kernel
theorem dL_clearIn_7 : decode cL_clearIn 7 = .ok (.astore_n 3, 1) := by decide +kernel
theorem dL_clearIn_8 : decode cL_clearIn 8 = .ok (.sipush (-1001), 3) := by decide +kernel
theorem dL_clearIn_11 : decode cL_clearIn 11 = .ok (.ireturn, 1) := by decide +kernel
theorem dL_clearIn_12 : decode cL_clearIn 12 = .ok (.astore_n 3, 1) := by decide +kernel
theorem dL_clearIn_13 : decode cL_clearIn 13 = .ok (.sipush (-1002), 3) := by decide +kernel
theorem dL_clearIn_16 : decode cL_clearIn 16 = .ok (.ireturn, 1) := by decide +kernel
theorem dL_heatIn_0 : decode cL_heatIn 0 = .ok (.aload_n 0, 1) := by decide +kernel
theorem dL_heatIn_1 : decode cL_heatIn 1 = .ok (.iload_n 1, 1) := by decide +kernel
theorem dL_heatIn_2 : decode cL_heatIn 2 = .ok (.invokevirtual 92, 3) := by decide +kernel
theorem dL_heatIn_5 : decode cL_heatIn 5 = .ok (.ireturn, 1) := by decide +kernel
theorem dL_heatIn_6 : decode cL_heatIn 6 = .ok (.astore_n 2, 1) := by decide +kernel
theorem dL_heatIn_7 : decode cL_heatIn 7 = .ok (.sipush (-1001), 3) := by decide +kernel
theorem dL_heatIn_10 : decode cL_heatIn 10 = .ok (.ireturn, 1) := by decide +kernel
theorem dL_lostIn_0 : decode cL_lostIn 0 = .ok (.aload_n 0, 1) := by decide +kernel
theorem dL_lostIn_1 : decode cL_lostIn 1 = .ok (.iload_n 1, 1) := by decide +kernel
theorem dL_lostIn_2 : decode cL_lostIn 2 = .ok (.invokevirtual 95, 3) := by decide +kernel
theorem dL_lostIn_5 : decode cL_lostIn 5 = .ok (.ireturn, 1) := by decide +kernel
theorem dL_lostIn_6 : decode cL_lostIn 6 = .ok (.astore_n 2, 1) := by decide +kernel
theorem dL_lostIn_7 : decode cL_lostIn 7 = .ok (.sipush (-1001), 3) := by decide +kernel
theorem dL_lostIn_10 : decode cL_lostIn 10 = .ok (.ireturn, 1) := by decide +kernel
theorem dL_lostIn_11 : decode cL_lostIn 11 = .ok (.astore_n 2, 1) := by decide +kernel
theorem dL_lostIn_12 : decode cL_lostIn 12 = .ok (.sipush (-1002), 3) := by decide +kernel
theorem dL_lostIn_15 : decode cL_lostIn 15 = .ok (.ireturn, 1) := by decide +kernel
theorem dL_nearest_0 : decode cL_nearest 0 = .ok (.aload_n 0, 1) := by decide +kernel
theorem dL_nearest_1 : decode cL_nearest 1 = .ok (.iload_n 1, 1) := by decide +kernel
theorem dL_nearest_2 : decode cL_nearest 2 = .ok (.invokevirtual 98, 3) := by decide +kernel
theorem dL_nearest_5 : decode cL_nearest 5 = .ok (.ireturn, 1) := by decide +kernel
theorem dL_nearest_6 : decode cL_nearest 6 = .ok (.astore_n 2, 1) := by decide +kernel
theorem dL_nearest_7 : decode cL_nearest 7 = .ok (.sipush (-1001), 3) := by decide +kernel
theorem dL_nearest_10 : decode cL_nearest 10 = .ok (.ireturn, 1) := by decide +kernel
theorem dL_nearest_11 : decode cL_nearest 11 = .ok (.astore_n 2, 1) := by decide +kernel
theorem dL_nearest_12 : decode cL_nearest 12 = .ok (.sipush (-1002), 3) := by decide +kernel
theorem dL_nearest_15 : decode cL_nearest 15 = .ok (.ireturn, 1) := by decide +kernel
theorem dL_append_0 : decode cL_append 0 = .ok (.aload_n 0, 1) := by decide +kernel
theorem dL_append_1 : decode cL_append 1 = .ok (.iload_n 1, 1) := by decide +kernel
theorem dL_append_2 : decode cL_append 2 = .ok (.invokevirtual 101, 3) := by decide +kernel
theorem dL_append_5 : decode cL_append 5 = .ok (.ireturn, 1) := by decide +kernel
theorem dL_append_6 : decode cL_append 6 = .ok (.astore_n 2, 1) := by decide +kernel
theorem dL_append_7 : decode cL_append 7 = .ok (.sipush (-1001), 3) := by decide +kernel
theorem dL_append_10 : decode cL_append 10 = .ok (.ireturn, 1) := by decide +kernel
theorem dL_commands_0 : decode cL_commands 0 = .ok (.aload_n 0, 1) := by decide +kernel
theorem dL_commands_1 : decode cL_commands 1 = .ok (.invokevirtual 107, 3) := by decide +kernel
theorem dL_commands_4 : decode cL_commands 4 = .ok (.ireturn, 1) := by decide +kernel
theorem dL_commands_5 : decode cL_commands 5 = .ok (.astore_n 1, 1) := by decide +kernel
theorem dL_commands_6 : decode cL_commands 6 = .ok (.sipush (-1001), 3) := by decide +kernel
theorem dL_commands_9 : decode cL_commands 9 = .ok (.ireturn, 1) := by decide +kernel
theorem dL_commands_10 : decode cL_commands 10 = .ok (.astore_n 1, 1) := by decide +kernel
theorem dL_commands_11 : decode cL_commands 11 = .ok (.sipush (-1002), 3) := by decide +kernel
theorem dL_commands_14 : decode cL_commands 14 = .ok (.ireturn, 1) := by decide +kernel
theorem dL_reason_0 : decode cL_reason 0 = .ok (.aload_n 0, 1) := by decide +kernel
theorem dL_reason_1 : decode cL_reason 1 = .ok (.iload_n 1, 1) := by decide +kernel
theorem dL_reason_2 : decode cL_reason 2 = .ok (.invokevirtual 110, 3) := by decide +kernel
theorem dL_reason_5 : decode cL_reason 5 = .ok (.ireturn, 1) := by decide +kernel
theorem dL_reason_6 : decode cL_reason 6 = .ok (.astore_n 2, 1) := by decide +kernel
theorem dL_reason_7 : decode cL_reason 7 = .ok (.sipush (-1001), 3) := by decide +kernel
theorem dL_reason_10 : decode cL_reason 10 = .ok (.ireturn, 1) := by decide +kernel
theorem dL_reason_11 : decode cL_reason 11 = .ok (.astore_n 2, 1) := by decide +kernel
theorem dL_reason_12 : decode cL_reason 12 = .ok (.sipush (-1002), 3) := by decide +kernel
theorem dL_reason_15 : decode cL_reason 15 = .ok (.ireturn, 1) := by decide +kernel
theorem dL_line_0 : decode cL_line 0 = .ok (.aload_n 0, 1) := by decide +kernel
theorem dL_line_1 : decode cL_line 1 = .ok (.iload_n 1, 1) := by decide +kernel
theorem dL_line_2 : decode cL_line 2 = .ok (.invokevirtual 113, 3) := by decide +kernel
theorem dL_line_5 : decode cL_line 5 = .ok (.ireturn, 1) := by decide +kernel
theorem dL_line_6 : decode cL_line 6 = .ok (.astore_n 2, 1) := by decide +kernel
theorem dL_line_7 : decode cL_line 7 = .ok (.sipush (-1001), 3) := by decide +kernel
theorem dL_line_10 : decode cL_line 10 = .ok (.ireturn, 1) := by decide +kernel
theorem dL_character_0 : decode cL_character 0 = .ok (.aload_n 0, 1) := by decide +kernel
theorem dL_character_1 : decode cL_character 1 = .ok (.iload_n 1, 1) := by decide +kernel
theorem dL_character_2 : decode cL_character 2 = .ok (.invokevirtual 116, 3) := by decide +kernel
theorem dL_character_5 : decode cL_character 5 = .ok (.ireturn, 1) := by decide +kernel
theorem dL_character_6 : decode cL_character 6 = .ok (.astore_n 2, 1) := by decide +kernel
theorem dL_character_7 : decode cL_character 7 = .ok (.sipush (-1001), 3) := by decide +kernel
theorem dL_character_10 : decode cL_character 10 = .ok (.ireturn, 1) := by decide +kernel
theorem dL_meanThirst_0 : decode cL_meanThirst 0 = .ok (.aload_n 0, 1) := by decide +kernel
theorem dL_meanThirst_1 : decode cL_meanThirst 1 = .ok (.invokevirtual 120, 3) := by decide +kernel
theorem dL_meanThirst_4 : decode cL_meanThirst 4 = .ok (.freturn, 1) := by decide +kernel
theorem dL_meanThirst_5 : decode cL_meanThirst 5 = .ok (.astore_n 1, 1) := by decide +kernel
theorem dL_meanThirst_6 : decode cL_meanThirst 6 = .ok (.ldc 126, 2) := by decide +kernel
theorem dL_meanThirst_8 : decode cL_meanThirst 8 = .ok (.freturn, 1) := by decide +kernel
theorem dL_rightShare_0 : decode cL_rightShare 0 = .ok (.aload_n 0, 1) := by decide +kernel
theorem dL_rightShare_1 : decode cL_rightShare 1 = .ok (.invokevirtual 127, 3) := by decide +kernel
theorem dL_rightShare_4 : decode cL_rightShare 4 = .ok (.dreturn, 1) := by decide +kernel
theorem dL_rightShare_5 : decode cL_rightShare 5 = .ok (.astore_n 1, 1) := by decide +kernel
theorem dL_rightShare_6 : decode cL_rightShare 6 = .ok (.ldc2_w 131, 3) := by decide +kernel
theorem dL_rightShare_9 : decode cL_rightShare 9 = .ok (.dreturn, 1) := by decide +kernel
theorem dL_account_0 : decode cL_account 0 = .ok (.aload_n 0, 1) := by decide +kernel
theorem dL_account_1 : decode cL_account 1 = .ok (.iload_n 1, 1) := by decide +kernel
theorem dL_account_2 : decode cL_account 2 = .ok (.invokevirtual 133, 3) := by decide +kernel
theorem dL_account_5 : decode cL_account 5 = .ok (.ireturn, 1) := by decide +kernel
theorem dL_account_6 : decode cL_account 6 = .ok (.astore_n 2, 1) := by decide +kernel
theorem dL_account_7 : decode cL_account 7 = .ok (.sipush (-1001), 3) := by decide +kernel
theorem dL_account_10 : decode cL_account 10 = .ok (.ireturn, 1) := by decide +kernel
theorem dL_undo_0 : decode cL_undo 0 = .ok (.aload_n 0, 1) := by decide +kernel
theorem dL_undo_1 : decode cL_undo 1 = .ok (.invokevirtual 136, 3) := by decide +kernel
theorem dL_undo_4 : decode cL_undo 4 = .ok (.ireturn, 1) := by decide +kernel
theorem dL_undo_5 : decode cL_undo 5 = .ok (.astore_n 1, 1) := by decide +kernel
theorem dL_undo_6 : decode cL_undo 6 = .ok (.sipush (-1001), 3) := by decide +kernel
theorem dL_undo_9 : decode cL_undo 9 = .ok (.ireturn, 1) := by decide +kernel
theorem dL_restore_0 : decode cL_restore 0 = .ok (.aload_n 0, 1) := by decide +kernel
theorem dL_restore_1 : decode cL_restore 1 = .ok (.invokevirtual 139, 3) := by decide +kernel
theorem dL_restore_4 : decode cL_restore 4 = .ok (.ireturn, 1) := by decide +kernel
theorem dL_restore_5 : decode cL_restore 5 = .ok (.astore_n 1, 1) := by decide +kernel
theorem dL_restore_6 : decode cL_restore 6 = .ok (.sipush (-1001), 3) := by decide +kernel
theorem dL_restore_9 : decode cL_restore 9 = .ok (.ireturn, 1) := by decide +kernel
theorem dL_reads_0 : decode cL_reads 0 = .ok (.iconst 0, 1) := by decide +kernel
theorem dL_reads_1 : decode cL_reads 1 = .ok (.istore_n 2, 1) := by decide +kernel
theorem dL_reads_2 : decode cL_reads 2 = .ok (.iload_n 2, 1) := by decide +kernel
theorem dL_reads_3 : decode cL_reads 3 = .ok (.aload_n 1, 1) := by decide +kernel
theorem dL_reads_4 : decode cL_reads 4 = .ok (.invokevirtual 142, 3) := by decide +kernel
theorem dL_reads_7 : decode cL_reads 7 = .ok (.if_icmp .ge 28, 3) := by decide +kernel
theorem dL_reads_10 : decode cL_reads 10 = .ok (.aload_n 0, 1) := by decide +kernel
theorem dL_reads_11 : decode cL_reads 11 = .ok (.aload_n 1, 1) := by decide +kernel
theorem dL_reads_12 : decode cL_reads 12 = .ok (.iload_n 2, 1) := by decide +kernel
theorem dL_reads_13 : decode cL_reads 13 = .ok (.invokevirtual 147, 3) := by decide +kernel
theorem dL_reads_16 : decode cL_reads 16 = .ok (.invokestatic 150, 3) := by decide +kernel
theorem dL_reads_19 : decode cL_reads 19 = .ok (.iload_n 2, 1) := by decide +kernel
theorem dL_reads_20 : decode cL_reads 20 = .ok (.iconst 1, 1) := by decide +kernel
theorem dL_reads_21 : decode cL_reads 21 = .ok (.iadd, 1) := by decide +kernel
theorem dL_reads_22 : decode cL_reads 22 = .ok (.if_icmp .eq 7, 3) := by decide +kernel
theorem dL_reads_25 : decode cL_reads 25 = .ok (.sipush (-9999), 3) := by decide +kernel
theorem dL_reads_28 : decode cL_reads 28 = .ok (.ireturn, 1) := by decide +kernel
theorem dL_reads_29 : decode cL_reads 29 = .ok (.iinc 2 1, 3) := by decide +kernel
theorem dL_reads_32 : decode cL_reads 32 = .ok (.goto (-30), 3) := by decide +kernel
theorem dL_reads_35 : decode cL_reads 35 = .ok (.aload_n 0, 1) := by decide +kernel
theorem dL_reads_36 : decode cL_reads 36 = .ok (.invokestatic 155, 3) := by decide +kernel
theorem dL_reads_39 : decode cL_reads 39 = .ok (.ireturn, 1) := by decide +kernel
theorem dL_is_0 : decode cL_is 0 = .ok (.aload_n 0, 1) := by decide +kernel
theorem dL_is_1 : decode cL_is 1 = .ok (.iconst 0, 1) := by decide +kernel
theorem dL_is_2 : decode cL_is 2 = .ok (.invokestatic 158, 3) := by decide +kernel
theorem dL_is_5 : decode cL_is 5 = .ok (.iload_n 1, 1) := by decide +kernel
theorem dL_is_6 : decode cL_is 6 = .ok (.if_icmp .ne 25, 3) := by decide +kernel
theorem dL_is_9 : decode cL_is 9 = .ok (.aload_n 0, 1) := by decide +kernel
theorem dL_is_10 : decode cL_is 10 = .ok (.iconst 1, 1) := by decide +kernel
theorem dL_is_11 : decode cL_is 11 = .ok (.invokestatic 158, 3) := by decide +kernel
theorem dL_is_14 : decode cL_is 14 = .ok (.iload_n 2, 1) := by decide +kernel
theorem dL_is_15 : decode cL_is 15 = .ok (.if_icmp .ne 16, 3) := by decide +kernel
theorem dL_is_18 : decode cL_is 18 = .ok (.aload_n 0, 1) := by decide +kernel
theorem dL_is_19 : decode cL_is 19 = .ok (.iconst 2, 1) := by decide +kernel
theorem dL_is_20 : decode cL_is 20 = .ok (.invokestatic 158, 3) := by decide +kernel
theorem dL_is_23 : decode cL_is 23 = .ok (.iload_n 3, 1) := by decide +kernel
theorem dL_is_24 : decode cL_is 24 = .ok (.if_icmp .ne 7, 3) := by decide +kernel
theorem dL_is_27 : decode cL_is 27 = .ok (.iconst 1, 1) := by decide +kernel
theorem dL_is_28 : decode cL_is 28 = .ok (.goto 4, 3) := by decide +kernel
theorem dL_is_31 : decode cL_is 31 = .ok (.iconst 0, 1) := by decide +kernel
theorem dL_is_32 : decode cL_is 32 = .ok (.ireturn, 1) := by decide +kernel
theorem dL_makes_0 : decode cL_makes 0 = .ok (.iconst 0, 1) := by decide +kernel
theorem dL_makes_1 : decode cL_makes 1 = .ok (.istore_n 2, 1) := by decide +kernel
theorem dL_makes_2 : decode cL_makes 2 = .ok (.iload_n 2, 1) := by decide +kernel
theorem dL_makes_3 : decode cL_makes 3 = .ok (.bipush 6, 2) := by decide +kernel
theorem dL_makes_5 : decode cL_makes 5 = .ok (.if_icmp .ge 34, 3) := by decide +kernel
theorem dL_makes_8 : decode cL_makes 8 = .ok (.aload_n 0, 1) := by decide +kernel
theorem dL_makes_9 : decode cL_makes 9 = .ok (.bipush 16, 2) := by decide +kernel
theorem dL_makes_11 : decode cL_makes 11 = .ok (.iload_n 2, 1) := by decide +kernel
theorem dL_makes_12 : decode cL_makes 12 = .ok (.imul, 1) := by decide +kernel
theorem dL_makes_13 : decode cL_makes 13 = .ok (.aload_n 1, 1) := by decide +kernel
theorem dL_makes_14 : decode cL_makes 14 = .ok (.iload_n 2, 1) := by decide +kernel
theorem dL_makes_15 : decode cL_makes 15 = .ok (.invokestatic 165, 3) := by decide +kernel
theorem dL_makes_18 : decode cL_makes 18 = .ok (.bipush 16, 2) := by decide +kernel
theorem dL_makes_20 : decode cL_makes 20 = .ok (.invokestatic 169, 3) := by decide +kernel
theorem dL_makes_23 : decode cL_makes 23 = .ok (.iadd, 1) := by decide +kernel
theorem dL_makes_24 : decode cL_makes 24 = .ok (.invokestatic 172, 3) := by decide +kernel
theorem dL_makes_27 : decode cL_makes 27 = .ok (.iload_n 2, 1) := by decide +kernel
theorem dL_makes_28 : decode cL_makes 28 = .ok (.if_icmp .eq 5, 3) := by decide +kernel
theorem dL_makes_31 : decode cL_makes 31 = .ok (.iconst 0, 1) := by decide +kernel
theorem dL_makes_32 : decode cL_makes 32 = .ok (.ireturn, 1) := by decide +kernel
theorem dL_makes_33 : decode cL_makes 33 = .ok (.iinc 2 1, 3) := by decide +kernel
theorem dL_makes_36 : decode cL_makes 36 = .ok (.goto (-34), 3) := by decide +kernel
theorem dL_makes_39 : decode cL_makes 39 = .ok (.iconst 0, 1) := by decide +kernel
theorem dL_makes_40 : decode cL_makes 40 = .ok (.istore_n 2, 1) := by decide +kernel
theorem dL_makes_41 : decode cL_makes 41 = .ok (.iload_n 2, 1) := by decide +kernel
theorem dL_makes_42 : decode cL_makes 42 = .ok (.iconst 3, 1) := by decide +kernel
theorem dL_makes_43 : decode cL_makes 43 = .ok (.if_icmp .ge 50, 3) := by decide +kernel
theorem dL_makes_46 : decode cL_makes 46 = .ok (.aload_n 0, 1) := by decide +kernel
theorem dL_makes_47 : decode cL_makes 47 = .ok (.aload_n 1, 1) := by decide +kernel
theorem dL_makes_48 : decode cL_makes 48 = .ok (.bipush 6, 2) := by decide +kernel
theorem dL_makes_50 : decode cL_makes 50 = .ok (.iload_n 2, 1) := by decide +kernel
theorem dL_makes_51 : decode cL_makes 51 = .ok (.iadd, 1) := by decide +kernel
theorem dL_makes_52 : decode cL_makes 52 = .ok (.invokestatic 165, 3) := by decide +kernel
theorem dL_makes_55 : decode cL_makes 55 = .ok (.bipush 100, 2) := by decide +kernel
theorem dL_makes_57 : decode cL_makes 57 = .ok (.invokestatic 169, 3) := by decide +kernel
theorem dL_makes_60 : decode cL_makes 60 = .ok (.iconst 1, 1) := by decide +kernel
theorem dL_makes_61 : decode cL_makes 61 = .ok (.aload_n 1, 1) := by decide +kernel
theorem dL_makes_62 : decode cL_makes 62 = .ok (.bipush 6, 2) := by decide +kernel
theorem dL_makes_64 : decode cL_makes 64 = .ok (.iload_n 2, 1) := by decide +kernel
theorem dL_makes_65 : decode cL_makes 65 = .ok (.iadd, 1) := by decide +kernel
theorem dL_makes_66 : decode cL_makes 66 = .ok (.invokestatic 165, 3) := by decide +kernel
theorem dL_makes_69 : decode cL_makes 69 = .ok (.bipush 7, 2) := by decide +kernel
theorem dL_makes_71 : decode cL_makes 71 = .ok (.ishr, 1) := by decide +kernel
theorem dL_makes_72 : decode cL_makes 72 = .ok (.bipush 9, 2) := by decide +kernel
theorem dL_makes_74 : decode cL_makes 74 = .ok (.invokestatic 169, 3) := by decide +kernel
theorem dL_makes_77 : decode cL_makes 77 = .ok (.iadd, 1) := by decide +kernel
theorem dL_makes_78 : decode cL_makes 78 = .ok (.invokestatic 174, 3) := by decide +kernel
theorem dL_makes_81 : decode cL_makes 81 = .ok (.iload_n 2, 1) := by decide +kernel
theorem dL_makes_82 : decode cL_makes 82 = .ok (.if_icmp .eq 5, 3) := by decide +kernel
theorem dL_makes_85 : decode cL_makes 85 = .ok (.iconst 0, 1) := by decide +kernel
theorem dL_makes_86 : decode cL_makes 86 = .ok (.ireturn, 1) := by decide +kernel
theorem dL_makes_87 : decode cL_makes 87 = .ok (.iinc 2 1, 3) := by decide +kernel
theorem dL_makes_90 : decode cL_makes 90 = .ok (.goto (-49), 3) := by decide +kernel
theorem dL_makes_93 : decode cL_makes 93 = .ok (.iconst 0, 1) := by decide +kernel
theorem dL_makes_94 : decode cL_makes 94 = .ok (.istore_n 2, 1) := by decide +kernel
theorem dL_makes_95 : decode cL_makes 95 = .ok (.iload_n 2, 1) := by decide +kernel
theorem dL_makes_96 : decode cL_makes 96 = .ok (.iconst 2, 1) := by decide +kernel
theorem dL_makes_97 : decode cL_makes 97 = .ok (.if_icmp .ge 19, 3) := by decide +kernel
theorem dL_makes_100 : decode cL_makes 100 = .ok (.aload_n 0, 1) := by decide +kernel
theorem dL_makes_101 : decode cL_makes 101 = .ok (.invokestatic 177, 3) := by decide +kernel
theorem dL_makes_104 : decode cL_makes 104 = .ok (.iload_n 2, 1) := by decide +kernel
theorem dL_makes_105 : decode cL_makes 105 = .ok (.if_icmp .eq 5, 3) := by decide +kernel
theorem dL_makes_108 : decode cL_makes 108 = .ok (.iconst 0, 1) := by decide +kernel
theorem dL_makes_109 : decode cL_makes 109 = .ok (.ireturn, 1) := by decide +kernel
theorem dL_makes_110 : decode cL_makes 110 = .ok (.iinc 2 1, 3) := by decide +kernel
theorem dL_makes_113 : decode cL_makes 113 = .ok (.goto (-18), 3) := by decide +kernel
theorem dL_makes_116 : decode cL_makes 116 = .ok (.iconst 0, 1) := by decide +kernel
theorem dL_makes_117 : decode cL_makes 117 = .ok (.istore_n 2, 1) := by decide +kernel
theorem dL_makes_118 : decode cL_makes 118 = .ok (.iload_n 2, 1) := by decide +kernel
theorem dL_makes_119 : decode cL_makes 119 = .ok (.iconst 5, 1) := by decide +kernel
theorem dL_makes_120 : decode cL_makes 120 = .ok (.if_icmp .ge 32, 3) := by decide +kernel
theorem dL_makes_123 : decode cL_makes 123 = .ok (.aload_n 0, 1) := by decide +kernel
theorem dL_makes_124 : decode cL_makes 124 = .ok (.aload_n 1, 1) := by decide +kernel
theorem dL_makes_125 : decode cL_makes 125 = .ok (.bipush 9, 2) := by decide +kernel
theorem dL_makes_127 : decode cL_makes 127 = .ok (.iload_n 2, 1) := by decide +kernel
theorem dL_makes_128 : decode cL_makes 128 = .ok (.iadd, 1) := by decide +kernel
theorem dL_makes_129 : decode cL_makes 129 = .ok (.invokestatic 165, 3) := by decide +kernel
theorem dL_makes_132 : decode cL_makes 132 = .ok (.bipush 100, 2) := by decide +kernel
theorem dL_makes_134 : decode cL_makes 134 = .ok (.invokestatic 169, 3) := by decide +kernel
theorem dL_makes_137 : decode cL_makes 137 = .ok (.invokestatic 179, 3) := by decide +kernel
theorem dL_makes_140 : decode cL_makes 140 = .ok (.iload_n 2, 1) := by decide +kernel
theorem dL_makes_141 : decode cL_makes 141 = .ok (.if_icmp .eq 5, 3) := by decide +kernel
theorem dL_makes_144 : decode cL_makes 144 = .ok (.iconst 0, 1) := by decide +kernel
theorem dL_makes_145 : decode cL_makes 145 = .ok (.ireturn, 1) := by decide +kernel
theorem dL_makes_146 : decode cL_makes 146 = .ok (.iinc 2 1, 3) := by decide +kernel
theorem dL_makes_149 : decode cL_makes 149 = .ok (.goto (-31), 3) := by decide +kernel
theorem dL_makes_152 : decode cL_makes 152 = .ok (.aload_n 0, 1) := by decide +kernel
theorem dL_makes_153 : decode cL_makes 153 = .ok (.aload_n 1, 1) := by decide +kernel
theorem dL_makes_154 : decode cL_makes 154 = .ok (.bipush 14, 2) := by decide +kernel
theorem dL_makes_156 : decode cL_makes 156 = .ok (.invokestatic 165, 3) := by decide +kernel
theorem dL_makes_159 : decode cL_makes 159 = .ok (.bipush 10, 2) := by decide +kernel
theorem dL_makes_161 : decode cL_makes 161 = .ok (.invokestatic 169, 3) := by decide +kernel
theorem dL_makes_164 : decode cL_makes 164 = .ok (.invokestatic 181, 3) := by decide +kernel
theorem dL_makes_167 : decode cL_makes 167 = .ok (.ifCond .ne 27, 3) := by decide +kernel
theorem dL_makes_170 : decode cL_makes 170 = .ok (.aload_n 0, 1) := by decide +kernel
theorem dL_makes_171 : decode cL_makes 171 = .ok (.iconst 1, 1) := by decide +kernel
theorem dL_makes_172 : decode cL_makes 172 = .ok (.aload_n 1, 1) := by decide +kernel
theorem dL_makes_173 : decode cL_makes 173 = .ok (.bipush 15, 2) := by decide +kernel
theorem dL_makes_175 : decode cL_makes 175 = .ok (.invokestatic 165, 3) := by decide +kernel
theorem dL_makes_178 : decode cL_makes 178 = .ok (.bipush 20, 2) := by decide +kernel
theorem dL_makes_180 : decode cL_makes 180 = .ok (.invokestatic 169, 3) := by decide +kernel
theorem dL_makes_183 : decode cL_makes 183 = .ok (.iadd, 1) := by decide +kernel
theorem dL_makes_184 : decode cL_makes 184 = .ok (.invokestatic 183, 3) := by decide +kernel
theorem dL_makes_187 : decode cL_makes 187 = .ok (.ifCond .lt 7, 3) := by decide +kernel
theorem dL_makes_190 : decode cL_makes 190 = .ok (.iconst 1, 1) := by decide +kernel
theorem dL_makes_191 : decode cL_makes 191 = .ok (.goto 4, 3) := by decide +kernel
theorem dL_makes_194 : decode cL_makes 194 = .ok (.iconst 0, 1) := by decide +kernel
theorem dL_makes_195 : decode cL_makes 195 = .ok (.ireturn, 1) := by decide +kernel
theorem dL_asks_0 : decode cL_asks 0 = .ok (.ldc2_w 185, 3) := by decide +kernel
theorem dL_asks_3 : decode cL_asks 3 = .ok (.aload_n 0, 1) := by decide +kernel
theorem dL_asks_4 : decode cL_asks 4 = .ok (.invokestatic 187, 3) := by decide +kernel
theorem dL_asks_7 : decode cL_asks 7 = .ok (.invokestatic 190, 3) := by decide +kernel
theorem dL_asks_10 : decode cL_asks 10 = .ok (.lmul, 1) := by decide +kernel
theorem dL_asks_11 : decode cL_asks 11 = .ok (.aload_n 0, 1) := by decide +kernel
theorem dL_asks_12 : decode cL_asks 12 = .ok (.invokestatic 196, 3) := by decide +kernel
theorem dL_asks_15 : decode cL_asks 15 = .ok (.invokestatic 199, 3) := by decide +kernel
theorem dL_asks_18 : decode cL_asks 18 = .ok (.i2l, 1) := by decide +kernel
theorem dL_asks_19 : decode cL_asks 19 = .ok (.ladd, 1) := by decide +kernel
theorem dL_asks_20 : decode cL_asks 20 = .ok (.lstore_n 1, 1) := by decide +kernel
theorem dL_asks_21 : decode cL_asks 21 = .ok (.iconst 0, 1) := by decide +kernel
theorem dL_asks_22 : decode cL_asks 22 = .ok (.istore_n 3, 1) := by decide +kernel
theorem dL_asks_23 : decode cL_asks 23 = .ok (.iload_n 3, 1) := by decide +kernel
theorem dL_asks_24 : decode cL_asks 24 = .ok (.bipush 15, 2) := by decide +kernel
theorem dL_asks_26 : decode cL_asks 26 = .ok (.if_icmp .ge 22, 3) := by decide +kernel
theorem dL_asks_29 : decode cL_asks 29 = .ok (.ldc2_w 185, 3) := by decide +kernel
theorem dL_asks_32 : decode cL_asks 32 = .ok (.lload_n 1, 1) := by decide +kernel
theorem dL_asks_33 : decode cL_asks 33 = .ok (.lmul, 1) := by decide +kernel
theorem dL_asks_34 : decode cL_asks 34 = .ok (.aload_n 0, 1) := by decide +kernel
theorem dL_asks_35 : decode cL_asks 35 = .ok (.iload_n 3, 1) := by decide +kernel
theorem dL_asks_36 : decode cL_asks 36 = .ok (.invokestatic 205, 3) := by decide +kernel
theorem dL_asks_39 : decode cL_asks 39 = .ok (.i2l, 1) := by decide +kernel
theorem dL_asks_40 : decode cL_asks 40 = .ok (.ladd, 1) := by decide +kernel
theorem dL_asks_41 : decode cL_asks 41 = .ok (.lstore_n 1, 1) := by decide +kernel
theorem dL_asks_42 : decode cL_asks 42 = .ok (.iinc 3 1, 3) := by decide +kernel
theorem dL_asks_45 : decode cL_asks 45 = .ok (.goto (-22), 3) := by decide +kernel
theorem dL_asks_48 : decode cL_asks 48 = .ok (.iconst 0, 1) := by decide +kernel
theorem dL_asks_49 : decode cL_asks 49 = .ok (.istore_n 3, 1) := by decide +kernel
theorem dL_asks_50 : decode cL_asks 50 = .ok (.iload_n 3, 1) := by decide +kernel
theorem dL_asks_51 : decode cL_asks 51 = .ok (.aload_n 0, 1) := by decide +kernel
theorem dL_asks_52 : decode cL_asks 52 = .ok (.iconst 4, 1) := by decide +kernel
theorem dL_asks_53 : decode cL_asks 53 = .ok (.invokestatic 205, 3) := by decide +kernel
theorem dL_asks_56 : decode cL_asks 56 = .ok (.if_icmp .ge 141, 3) := by decide +kernel
theorem dL_asks_59 : decode cL_asks 59 = .ok (.ldc2_w 185, 3) := by decide +kernel
theorem dL_asks_62 : decode cL_asks 62 = .ok (.ldc2_w 185, 3) := by decide +kernel
theorem dL_asks_65 : decode cL_asks 65 = .ok (.lload_n 1, 1) := by decide +kernel
theorem dL_asks_66 : decode cL_asks 66 = .ok (.lmul, 1) := by decide +kernel
theorem dL_asks_67 : decode cL_asks 67 = .ok (.aload_n 0, 1) := by decide +kernel
theorem dL_asks_68 : decode cL_asks 68 = .ok (.iload_n 3, 1) := by decide +kernel
theorem dL_asks_69 : decode cL_asks 69 = .ok (.invokestatic 207, 3) := by decide +kernel
theorem dL_asks_72 : decode cL_asks 72 = .ok (.i2l, 1) := by decide +kernel
theorem dL_asks_73 : decode cL_asks 73 = .ok (.ladd, 1) := by decide +kernel
theorem dL_asks_74 : decode cL_asks 74 = .ok (.lmul, 1) := by decide +kernel
theorem dL_asks_75 : decode cL_asks 75 = .ok (.aload_n 0, 1) := by decide +kernel
theorem dL_asks_76 : decode cL_asks 76 = .ok (.iload_n 3, 1) := by decide +kernel
theorem dL_asks_77 : decode cL_asks 77 = .ok (.invokestatic 209, 3) := by decide +kernel
theorem dL_asks_80 : decode cL_asks 80 = .ok (.i2l, 1) := by decide +kernel
theorem dL_asks_81 : decode cL_asks 81 = .ok (.ladd, 1) := by decide +kernel
theorem dL_asks_82 : decode cL_asks 82 = .ok (.lstore_n 1, 1) := by decide +kernel
theorem dL_asks_83 : decode cL_asks 83 = .ok (.iconst 0, 1) := by decide +kernel
theorem dL_asks_84 : decode cL_asks 84 = .ok (.istore 4, 2) := by decide +kernel
theorem dL_asks_86 : decode cL_asks 86 = .ok (.iload 4, 2) := by decide +kernel
theorem dL_asks_88 : decode cL_asks 88 = .ok (.aload_n 0, 1) := by decide +kernel
theorem dL_asks_89 : decode cL_asks 89 = .ok (.bipush 6, 2) := by decide +kernel
theorem dL_asks_91 : decode cL_asks 91 = .ok (.invokestatic 205, 3) := by decide +kernel
theorem dL_asks_94 : decode cL_asks 94 = .ok (.if_icmp .ge 24, 3) := by decide +kernel
theorem dL_asks_97 : decode cL_asks 97 = .ok (.ldc2_w 185, 3) := by decide +kernel
theorem dL_asks_100 : decode cL_asks 100 = .ok (.lload_n 1, 1) := by decide +kernel
theorem dL_asks_101 : decode cL_asks 101 = .ok (.lmul, 1) := by decide +kernel
theorem dL_asks_102 : decode cL_asks 102 = .ok (.aload_n 0, 1) := by decide +kernel
theorem dL_asks_103 : decode cL_asks 103 = .ok (.iload_n 3, 1) := by decide +kernel
theorem dL_asks_104 : decode cL_asks 104 = .ok (.iload 4, 2) := by decide +kernel
theorem dL_asks_106 : decode cL_asks 106 = .ok (.invokestatic 211, 3) := by decide +kernel
theorem dL_asks_109 : decode cL_asks 109 = .ok (.i2l, 1) := by decide +kernel
theorem dL_asks_110 : decode cL_asks 110 = .ok (.ladd, 1) := by decide +kernel
theorem dL_asks_111 : decode cL_asks 111 = .ok (.lstore_n 1, 1) := by decide +kernel
theorem dL_asks_112 : decode cL_asks 112 = .ok (.iinc 4 1, 3) := by decide +kernel
theorem dL_asks_115 : decode cL_asks 115 = .ok (.goto (-29), 3) := by decide +kernel
theorem dL_asks_118 : decode cL_asks 118 = .ok (.iconst 0, 1) := by decide +kernel
theorem dL_asks_119 : decode cL_asks 119 = .ok (.istore 4, 2) := by decide +kernel
theorem dL_asks_121 : decode cL_asks 121 = .ok (.iload 4, 2) := by decide +kernel
theorem dL_asks_123 : decode cL_asks 123 = .ok (.aload_n 0, 1) := by decide +kernel
theorem dL_asks_124 : decode cL_asks 124 = .ok (.iconst 5, 1) := by decide +kernel
theorem dL_asks_125 : decode cL_asks 125 = .ok (.invokestatic 205, 3) := by decide +kernel
theorem dL_asks_128 : decode cL_asks 128 = .ok (.if_icmp .ge 63, 3) := by decide +kernel
theorem dL_asks_131 : decode cL_asks 131 = .ok (.ldc2_w 185, 3) := by decide +kernel
theorem dL_asks_134 : decode cL_asks 134 = .ok (.ldc2_w 185, 3) := by decide +kernel
theorem dL_asks_137 : decode cL_asks 137 = .ok (.ldc2_w 185, 3) := by decide +kernel
theorem dL_asks_140 : decode cL_asks 140 = .ok (.ldc2_w 185, 3) := by decide +kernel
theorem dL_asks_143 : decode cL_asks 143 = .ok (.lload_n 1, 1) := by decide +kernel
theorem dL_asks_144 : decode cL_asks 144 = .ok (.lmul, 1) := by decide +kernel
theorem dL_asks_145 : decode cL_asks 145 = .ok (.aload_n 0, 1) := by decide +kernel
theorem dL_asks_146 : decode cL_asks 146 = .ok (.iload_n 3, 1) := by decide +kernel
theorem dL_asks_147 : decode cL_asks 147 = .ok (.iload 4, 2) := by decide +kernel
theorem dL_asks_149 : decode cL_asks 149 = .ok (.invokestatic 213, 3) := by decide +kernel
theorem dL_asks_152 : decode cL_asks 152 = .ok (.i2l, 1) := by decide +kernel
theorem dL_asks_153 : decode cL_asks 153 = .ok (.ladd, 1) := by decide +kernel
theorem dL_asks_154 : decode cL_asks 154 = .ok (.lmul, 1) := by decide +kernel
theorem dL_asks_155 : decode cL_asks 155 = .ok (.aload_n 0, 1) := by decide +kernel
theorem dL_asks_156 : decode cL_asks 156 = .ok (.iload_n 3, 1) := by decide +kernel
theorem dL_asks_157 : decode cL_asks 157 = .ok (.iload 4, 2) := by decide +kernel
theorem dL_asks_159 : decode cL_asks 159 = .ok (.invokestatic 215, 3) := by decide +kernel
theorem dL_asks_162 : decode cL_asks 162 = .ok (.i2l, 1) := by decide +kernel
theorem dL_asks_163 : decode cL_asks 163 = .ok (.ladd, 1) := by decide +kernel
theorem dL_asks_164 : decode cL_asks 164 = .ok (.lmul, 1) := by decide +kernel
theorem dL_asks_165 : decode cL_asks 165 = .ok (.aload_n 0, 1) := by decide +kernel
theorem dL_asks_166 : decode cL_asks 166 = .ok (.iload_n 3, 1) := by decide +kernel
theorem dL_asks_167 : decode cL_asks 167 = .ok (.iload 4, 2) := by decide +kernel
theorem dL_asks_169 : decode cL_asks 169 = .ok (.invokestatic 217, 3) := by decide +kernel
theorem dL_asks_172 : decode cL_asks 172 = .ok (.i2l, 1) := by decide +kernel
theorem dL_asks_173 : decode cL_asks 173 = .ok (.ladd, 1) := by decide +kernel
theorem dL_asks_174 : decode cL_asks 174 = .ok (.lmul, 1) := by decide +kernel
theorem dL_asks_175 : decode cL_asks 175 = .ok (.aload_n 0, 1) := by decide +kernel
theorem dL_asks_176 : decode cL_asks 176 = .ok (.iload_n 3, 1) := by decide +kernel
theorem dL_asks_177 : decode cL_asks 177 = .ok (.iload 4, 2) := by decide +kernel
theorem dL_asks_179 : decode cL_asks 179 = .ok (.invokestatic 219, 3) := by decide +kernel
theorem dL_asks_182 : decode cL_asks 182 = .ok (.i2l, 1) := by decide +kernel
theorem dL_asks_183 : decode cL_asks 183 = .ok (.ladd, 1) := by decide +kernel
theorem dL_asks_184 : decode cL_asks 184 = .ok (.lstore_n 1, 1) := by decide +kernel
theorem dL_asks_185 : decode cL_asks 185 = .ok (.iinc 4 1, 3) := by decide +kernel
theorem dL_asks_188 : decode cL_asks 188 = .ok (.goto (-67), 3) := by decide +kernel
theorem dL_asks_191 : decode cL_asks 191 = .ok (.iinc 3 1, 3) := by decide +kernel
theorem dL_asks_194 : decode cL_asks 194 = .ok (.goto (-144), 3) := by decide +kernel
theorem dL_asks_197 : decode cL_asks 197 = .ok (.iconst 0, 1) := by decide +kernel
theorem dL_asks_198 : decode cL_asks 198 = .ok (.istore_n 3, 1) := by decide +kernel
theorem dL_asks_199 : decode cL_asks 199 = .ok (.iload_n 3, 1) := by decide +kernel
theorem dL_asks_200 : decode cL_asks 200 = .ok (.aload_n 0, 1) := by decide +kernel
theorem dL_asks_201 : decode cL_asks 201 = .ok (.iconst 5, 1) := by decide +kernel
theorem dL_asks_202 : decode cL_asks 202 = .ok (.invokestatic 205, 3) := by decide +kernel
theorem dL_asks_205 : decode cL_asks 205 = .ok (.if_icmp .ge 35, 3) := by decide +kernel
theorem dL_asks_208 : decode cL_asks 208 = .ok (.ldc2_w 185, 3) := by decide +kernel
theorem dL_asks_211 : decode cL_asks 211 = .ok (.ldc2_w 185, 3) := by decide +kernel
theorem dL_asks_214 : decode cL_asks 214 = .ok (.lload_n 1, 1) := by decide +kernel
theorem dL_asks_215 : decode cL_asks 215 = .ok (.lmul, 1) := by decide +kernel
theorem dL_asks_216 : decode cL_asks 216 = .ok (.aload_n 0, 1) := by decide +kernel
theorem dL_asks_217 : decode cL_asks 217 = .ok (.iload_n 3, 1) := by decide +kernel
theorem dL_asks_218 : decode cL_asks 218 = .ok (.iconst 1, 1) := by decide +kernel
theorem dL_asks_219 : decode cL_asks 219 = .ok (.invokestatic 221, 3) := by decide +kernel
theorem dL_asks_222 : decode cL_asks 222 = .ok (.i2l, 1) := by decide +kernel
theorem dL_asks_223 : decode cL_asks 223 = .ok (.ladd, 1) := by decide +kernel
theorem dL_asks_224 : decode cL_asks 224 = .ok (.lmul, 1) := by decide +kernel
theorem dL_asks_225 : decode cL_asks 225 = .ok (.aload_n 0, 1) := by decide +kernel
theorem dL_asks_226 : decode cL_asks 226 = .ok (.iload_n 3, 1) := by decide +kernel
theorem dL_asks_227 : decode cL_asks 227 = .ok (.iconst 0, 1) := by decide +kernel
theorem dL_asks_228 : decode cL_asks 228 = .ok (.invokestatic 221, 3) := by decide +kernel
theorem dL_asks_231 : decode cL_asks 231 = .ok (.i2l, 1) := by decide +kernel
theorem dL_asks_232 : decode cL_asks 232 = .ok (.ladd, 1) := by decide +kernel
theorem dL_asks_233 : decode cL_asks 233 = .ok (.lstore_n 1, 1) := by decide +kernel
theorem dL_asks_234 : decode cL_asks 234 = .ok (.iinc 3 1, 3) := by decide +kernel
theorem dL_asks_237 : decode cL_asks 237 = .ok (.goto (-38), 3) := by decide +kernel
theorem dL_asks_240 : decode cL_asks 240 = .ok (.iconst 0, 1) := by decide +kernel
theorem dL_asks_241 : decode cL_asks 241 = .ok (.istore_n 3, 1) := by decide +kernel
theorem dL_asks_242 : decode cL_asks 242 = .ok (.iload_n 3, 1) := by decide +kernel
theorem dL_asks_243 : decode cL_asks 243 = .ok (.aload_n 0, 1) := by decide +kernel
theorem dL_asks_244 : decode cL_asks 244 = .ok (.bipush 8, 2) := by decide +kernel
theorem dL_asks_246 : decode cL_asks 246 = .ok (.invokestatic 205, 3) := by decide +kernel
theorem dL_asks_249 : decode cL_asks 249 = .ok (.if_icmp .ge 52, 3) := by decide +kernel
theorem dL_asks_252 : decode cL_asks 252 = .ok (.iconst 0, 1) := by decide +kernel
theorem dL_asks_253 : decode cL_asks 253 = .ok (.istore 4, 2) := by decide +kernel
theorem dL_asks_255 : decode cL_asks 255 = .ok (.iload 4, 2) := by decide +kernel
theorem dL_asks_257 : decode cL_asks 257 = .ok (.iconst 5, 1) := by decide +kernel
theorem dL_asks_258 : decode cL_asks 258 = .ok (.if_icmp .ge 24, 3) := by decide +kernel
theorem dL_asks_261 : decode cL_asks 261 = .ok (.ldc2_w 185, 3) := by decide +kernel
theorem dL_asks_264 : decode cL_asks 264 = .ok (.lload_n 1, 1) := by decide +kernel
theorem dL_asks_265 : decode cL_asks 265 = .ok (.lmul, 1) := by decide +kernel
theorem dL_asks_266 : decode cL_asks 266 = .ok (.aload_n 0, 1) := by decide +kernel
theorem dL_asks_267 : decode cL_asks 267 = .ok (.iload_n 3, 1) := by decide +kernel
theorem dL_asks_268 : decode cL_asks 268 = .ok (.iload 4, 2) := by decide +kernel
theorem dL_asks_270 : decode cL_asks 270 = .ok (.invokestatic 224, 3) := by decide +kernel
theorem dL_asks_273 : decode cL_asks 273 = .ok (.i2l, 1) := by decide +kernel
theorem dL_asks_274 : decode cL_asks 274 = .ok (.ladd, 1) := by decide +kernel
theorem dL_asks_275 : decode cL_asks 275 = .ok (.lstore_n 1, 1) := by decide +kernel
theorem dL_asks_276 : decode cL_asks 276 = .ok (.iinc 4 1, 3) := by decide +kernel
theorem dL_asks_279 : decode cL_asks 279 = .ok (.goto (-24), 3) := by decide +kernel
theorem dL_asks_282 : decode cL_asks 282 = .ok (.ldc2_w 185, 3) := by decide +kernel
theorem dL_asks_285 : decode cL_asks 285 = .ok (.lload_n 1, 1) := by decide +kernel
theorem dL_asks_286 : decode cL_asks 286 = .ok (.lmul, 1) := by decide +kernel
theorem dL_asks_287 : decode cL_asks 287 = .ok (.aload_n 0, 1) := by decide +kernel
theorem dL_asks_288 : decode cL_asks 288 = .ok (.iload_n 3, 1) := by decide +kernel
theorem dL_asks_289 : decode cL_asks 289 = .ok (.invokestatic 226, 3) := by decide +kernel
theorem dL_asks_292 : decode cL_asks 292 = .ok (.i2l, 1) := by decide +kernel
theorem dL_asks_293 : decode cL_asks 293 = .ok (.ladd, 1) := by decide +kernel
theorem dL_asks_294 : decode cL_asks 294 = .ok (.lstore_n 1, 1) := by decide +kernel
theorem dL_asks_295 : decode cL_asks 295 = .ok (.iinc 3 1, 3) := by decide +kernel
theorem dL_asks_298 : decode cL_asks 298 = .ok (.goto (-56), 3) := by decide +kernel
theorem dL_asks_301 : decode cL_asks 301 = .ok (.iconst 0, 1) := by decide +kernel
theorem dL_asks_302 : decode cL_asks 302 = .ok (.istore_n 3, 1) := by decide +kernel
theorem dL_asks_303 : decode cL_asks 303 = .ok (.iload_n 3, 1) := by decide +kernel
theorem dL_asks_304 : decode cL_asks 304 = .ok (.aload_n 0, 1) := by decide +kernel
theorem dL_asks_305 : decode cL_asks 305 = .ok (.bipush 6, 2) := by decide +kernel
theorem dL_asks_307 : decode cL_asks 307 = .ok (.invokestatic 205, 3) := by decide +kernel
theorem dL_asks_310 : decode cL_asks 310 = .ok (.if_icmp .ge 59, 3) := by decide +kernel
theorem dL_asks_313 : decode cL_asks 313 = .ok (.ldc2_w 185, 3) := by decide +kernel
theorem dL_asks_316 : decode cL_asks 316 = .ok (.lload_n 1, 1) := by decide +kernel
theorem dL_asks_317 : decode cL_asks 317 = .ok (.lmul, 1) := by decide +kernel
theorem dL_asks_318 : decode cL_asks 318 = .ok (.aload_n 0, 1) := by decide +kernel
theorem dL_asks_319 : decode cL_asks 319 = .ok (.iload_n 3, 1) := by decide +kernel
theorem dL_asks_320 : decode cL_asks 320 = .ok (.invokestatic 228, 3) := by decide +kernel
theorem dL_asks_323 : decode cL_asks 323 = .ok (.i2l, 1) := by decide +kernel
theorem dL_asks_324 : decode cL_asks 324 = .ok (.ladd, 1) := by decide +kernel
theorem dL_asks_325 : decode cL_asks 325 = .ok (.lstore_n 1, 1) := by decide +kernel
theorem dL_asks_326 : decode cL_asks 326 = .ok (.aload_n 0, 1) := by decide +kernel
theorem dL_asks_327 : decode cL_asks 327 = .ok (.iload_n 3, 1) := by decide +kernel
theorem dL_asks_328 : decode cL_asks 328 = .ok (.invokestatic 161, 3) := by decide +kernel
theorem dL_asks_331 : decode cL_asks 331 = .ok (.istore 4, 2) := by decide +kernel
theorem dL_asks_333 : decode cL_asks 333 = .ok (.iconst 0, 1) := by decide +kernel
theorem dL_asks_334 : decode cL_asks 334 = .ok (.istore 5, 2) := by decide +kernel
theorem dL_asks_336 : decode cL_asks 336 = .ok (.iload 5, 2) := by decide +kernel
theorem dL_asks_338 : decode cL_asks 338 = .ok (.iload 4, 2) := by decide +kernel
theorem dL_asks_340 : decode cL_asks 340 = .ok (.if_icmp .ge 23, 3) := by decide +kernel
theorem dL_asks_343 : decode cL_asks 343 = .ok (.ldc2_w 185, 3) := by decide +kernel
theorem dL_asks_346 : decode cL_asks 346 = .ok (.lload_n 1, 1) := by decide +kernel
theorem dL_asks_347 : decode cL_asks 347 = .ok (.lmul, 1) := by decide +kernel
theorem dL_asks_348 : decode cL_asks 348 = .ok (.aload_n 0, 1) := by decide +kernel
theorem dL_asks_349 : decode cL_asks 349 = .ok (.iload 5, 2) := by decide +kernel
theorem dL_asks_351 : decode cL_asks 351 = .ok (.invokestatic 163, 3) := by decide +kernel
theorem dL_asks_354 : decode cL_asks 354 = .ok (.i2l, 1) := by decide +kernel
theorem dL_asks_355 : decode cL_asks 355 = .ok (.ladd, 1) := by decide +kernel
theorem dL_asks_356 : decode cL_asks 356 = .ok (.lstore_n 1, 1) := by decide +kernel
theorem dL_asks_357 : decode cL_asks 357 = .ok (.iinc 5 1, 3) := by decide +kernel
theorem dL_asks_360 : decode cL_asks 360 = .ok (.goto (-24), 3) := by decide +kernel
theorem dL_asks_363 : decode cL_asks 363 = .ok (.iinc 3 1, 3) := by decide +kernel
theorem dL_asks_366 : decode cL_asks 366 = .ok (.goto (-63), 3) := by decide +kernel
theorem dL_asks_369 : decode cL_asks 369 = .ok (.ldc2_w 185, 3) := by decide +kernel
theorem dL_asks_372 : decode cL_asks 372 = .ok (.ldc2_w 185, 3) := by decide +kernel
theorem dL_asks_375 : decode cL_asks 375 = .ok (.ldc2_w 185, 3) := by decide +kernel
theorem dL_asks_378 : decode cL_asks 378 = .ok (.lload_n 1, 1) := by decide +kernel
theorem dL_asks_379 : decode cL_asks 379 = .ok (.lmul, 1) := by decide +kernel
theorem dL_asks_380 : decode cL_asks 380 = .ok (.aload_n 0, 1) := by decide +kernel
theorem dL_asks_381 : decode cL_asks 381 = .ok (.bipush 7, 2) := by decide +kernel
theorem dL_asks_383 : decode cL_asks 383 = .ok (.invokestatic 230, 3) := by decide +kernel
theorem dL_asks_386 : decode cL_asks 386 = .ok (.i2l, 1) := by decide +kernel
theorem dL_asks_387 : decode cL_asks 387 = .ok (.ladd, 1) := by decide +kernel
theorem dL_asks_388 : decode cL_asks 388 = .ok (.lmul, 1) := by decide +kernel
theorem dL_asks_389 : decode cL_asks 389 = .ok (.aload_n 0, 1) := by decide +kernel
theorem dL_asks_390 : decode cL_asks 390 = .ok (.iconst 0, 1) := by decide +kernel
theorem dL_asks_391 : decode cL_asks 391 = .ok (.invokestatic 232, 3) := by decide +kernel
theorem dL_asks_394 : decode cL_asks 394 = .ok (.i2l, 1) := by decide +kernel
theorem dL_asks_395 : decode cL_asks 395 = .ok (.ladd, 1) := by decide +kernel
theorem dL_asks_396 : decode cL_asks 396 = .ok (.lmul, 1) := by decide +kernel
theorem dL_asks_397 : decode cL_asks 397 = .ok (.aload_n 0, 1) := by decide +kernel
theorem dL_asks_398 : decode cL_asks 398 = .ok (.bipush 50, 2) := by decide +kernel
theorem dL_asks_400 : decode cL_asks 400 = .ok (.invokestatic 232, 3) := by decide +kernel
theorem dL_asks_403 : decode cL_asks 403 = .ok (.i2l, 1) := by decide +kernel
theorem dL_asks_404 : decode cL_asks 404 = .ok (.ladd, 1) := by decide +kernel
theorem dL_asks_405 : decode cL_asks 405 = .ok (.lreturn, 1) := by decide +kernel
theorem dL_changes_0 : decode cL_changes 0 = .ok (.iload_n 1, 1) := by decide +kernel
theorem dL_changes_1 : decode cL_changes 1 = .ok (.iconst 4, 1) := by decide +kernel
theorem dL_changes_2 : decode cL_changes 2 = .ok (.ishr, 1) := by decide +kernel
theorem dL_changes_3 : decode cL_changes 3 = .ok (.aload_n 0, 1) := by decide +kernel
theorem dL_changes_4 : decode cL_changes 4 = .ok (.iconst 4, 1) := by decide +kernel
theorem dL_changes_5 : decode cL_changes 5 = .ok (.invokestatic 205, 3) := by decide +kernel
theorem dL_changes_8 : decode cL_changes 8 = .ok (.iconst 1, 1) := by decide +kernel
theorem dL_changes_9 : decode cL_changes 9 = .ok (.iadd, 1) := by decide +kernel
theorem dL_changes_10 : decode cL_changes 10 = .ok (.invokestatic 169, 3) := by decide +kernel
theorem dL_changes_13 : decode cL_changes 13 = .ok (.istore_n 2, 1) := by decide +kernel
theorem dL_changes_14 : decode cL_changes 14 = .ok (.iload_n 1, 1) := by decide +kernel
theorem dL_changes_15 : decode cL_changes 15 = .ok (.bipush 9, 2) := by decide +kernel
theorem dL_changes_17 : decode cL_changes 17 = .ok (.ishr, 1) := by decide +kernel
theorem dL_changes_18 : decode cL_changes 18 = .ok (.aload_n 0, 1) := by decide +kernel
theorem dL_changes_19 : decode cL_changes 19 = .ok (.bipush 6, 2) := by decide +kernel
theorem dL_changes_21 : decode cL_changes 21 = .ok (.invokestatic 205, 3) := by decide +kernel
theorem dL_changes_24 : decode cL_changes 24 = .ok (.iconst 1, 1) := by decide +kernel
theorem dL_changes_25 : decode cL_changes 25 = .ok (.iadd, 1) := by decide +kernel
theorem dL_changes_26 : decode cL_changes 26 = .ok (.invokestatic 169, 3) := by decide +kernel
theorem dL_changes_29 : decode cL_changes 29 = .ok (.istore_n 3, 1) := by decide +kernel
theorem dL_changes_30 : decode cL_changes 30 = .ok (.iload_n 1, 1) := by decide +kernel
theorem dL_changes_31 : decode cL_changes 31 = .ok (.iconst 5, 1) := by decide +kernel
theorem dL_changes_32 : decode cL_changes 32 = .ok (.ishr, 1) := by decide +kernel
theorem dL_changes_33 : decode cL_changes 33 = .ok (.aload_n 0, 1) := by decide +kernel
theorem dL_changes_34 : decode cL_changes 34 = .ok (.bipush 8, 2) := by decide +kernel
theorem dL_changes_36 : decode cL_changes 36 = .ok (.invokestatic 205, 3) := by decide +kernel
theorem dL_changes_39 : decode cL_changes 39 = .ok (.iconst 1, 1) := by decide +kernel
theorem dL_changes_40 : decode cL_changes 40 = .ok (.iadd, 1) := by decide +kernel
theorem dL_changes_41 : decode cL_changes 41 = .ok (.invokestatic 169, 3) := by decide +kernel
theorem dL_changes_44 : decode cL_changes 44 = .ok (.istore 4, 2) := by decide +kernel
theorem dL_changes_46 : decode cL_changes 46 = .ok (.iload_n 1, 1) := by decide +kernel
theorem dL_changes_47 : decode cL_changes 47 = .ok (.bipush 18, 2) := by decide +kernel
theorem dL_changes_49 : decode cL_changes 49 = .ok (.invokestatic 169, 3) := by decide +kernel
theorem dL_changes_52 : decode cL_changes 52 = .ok (.tableswitch 342 0 16 #[84, 105, 135, 148, 169, 169, 169, 198, 213, 234, 234, 255, 270, 285, 300, 321, 321], 84) := by decide +kernel
theorem dL_changes_136 : decode cL_changes 136 = .ok (.aload_n 0, 1) := by decide +kernel
theorem dL_changes_137 : decode cL_changes 137 = .ok (.iload_n 1, 1) := by decide +kernel
theorem dL_changes_138 : decode cL_changes 138 = .ok (.iconst 4, 1) := by decide +kernel
theorem dL_changes_139 : decode cL_changes 139 = .ok (.ishr, 1) := by decide +kernel
theorem dL_changes_140 : decode cL_changes 140 = .ok (.bipush 101, 2) := by decide +kernel
theorem dL_changes_142 : decode cL_changes 142 = .ok (.invokestatic 169, 3) := by decide +kernel
theorem dL_changes_145 : decode cL_changes 145 = .ok (.invokestatic 172, 3) := by decide +kernel
theorem dL_changes_148 : decode cL_changes 148 = .ok (.ifCond .lt 7, 3) := by decide +kernel
theorem dL_changes_151 : decode cL_changes 151 = .ok (.iconst 1, 1) := by decide +kernel
theorem dL_changes_152 : decode cL_changes 152 = .ok (.goto 4, 3) := by decide +kernel
theorem dL_changes_155 : decode cL_changes 155 = .ok (.iconst 0, 1) := by decide +kernel
theorem dL_changes_156 : decode cL_changes 156 = .ok (.ireturn, 1) := by decide +kernel
theorem dL_changes_157 : decode cL_changes 157 = .ok (.aload_n 0, 1) := by decide +kernel
theorem dL_changes_158 : decode cL_changes 158 = .ok (.iload_n 1, 1) := by decide +kernel
theorem dL_changes_159 : decode cL_changes 159 = .ok (.iconst 4, 1) := by decide +kernel
theorem dL_changes_160 : decode cL_changes 160 = .ok (.ishr, 1) := by decide +kernel
theorem dL_changes_161 : decode cL_changes 161 = .ok (.bipush 101, 2) := by decide +kernel
theorem dL_changes_163 : decode cL_changes 163 = .ok (.invokestatic 169, 3) := by decide +kernel
theorem dL_changes_166 : decode cL_changes 166 = .ok (.iload_n 1, 1) := by decide +kernel
theorem dL_changes_167 : decode cL_changes 167 = .ok (.bipush 7, 2) := by decide +kernel
theorem dL_changes_169 : decode cL_changes 169 = .ok (.ishr, 1) := by decide +kernel
theorem dL_changes_170 : decode cL_changes 170 = .ok (.bipush 11, 2) := by decide +kernel
theorem dL_changes_172 : decode cL_changes 172 = .ok (.invokestatic 169, 3) := by decide +kernel
theorem dL_changes_175 : decode cL_changes 175 = .ok (.invokestatic 174, 3) := by decide +kernel
theorem dL_changes_178 : decode cL_changes 178 = .ok (.ifCond .lt 7, 3) := by decide +kernel
theorem dL_changes_181 : decode cL_changes 181 = .ok (.iconst 1, 1) := by decide +kernel
theorem dL_changes_182 : decode cL_changes 182 = .ok (.goto 4, 3) := by decide +kernel
theorem dL_changes_185 : decode cL_changes 185 = .ok (.iconst 0, 1) := by decide +kernel
theorem dL_changes_186 : decode cL_changes 186 = .ok (.ireturn, 1) := by decide +kernel
theorem dL_changes_187 : decode cL_changes 187 = .ok (.aload_n 0, 1) := by decide +kernel
theorem dL_changes_188 : decode cL_changes 188 = .ok (.invokestatic 177, 3) := by decide +kernel
theorem dL_changes_191 : decode cL_changes 191 = .ok (.ifCond .lt 7, 3) := by decide +kernel
theorem dL_changes_194 : decode cL_changes 194 = .ok (.iconst 1, 1) := by decide +kernel
theorem dL_changes_195 : decode cL_changes 195 = .ok (.goto 4, 3) := by decide +kernel
theorem dL_changes_198 : decode cL_changes 198 = .ok (.iconst 0, 1) := by decide +kernel
theorem dL_changes_199 : decode cL_changes 199 = .ok (.ireturn, 1) := by decide +kernel
theorem dL_changes_200 : decode cL_changes 200 = .ok (.aload_n 0, 1) := by decide +kernel
theorem dL_changes_201 : decode cL_changes 201 = .ok (.iload_n 1, 1) := by decide +kernel
theorem dL_changes_202 : decode cL_changes 202 = .ok (.iconst 4, 1) := by decide +kernel
theorem dL_changes_203 : decode cL_changes 203 = .ok (.ishr, 1) := by decide +kernel
theorem dL_changes_204 : decode cL_changes 204 = .ok (.bipush 11, 2) := by decide +kernel
theorem dL_changes_206 : decode cL_changes 206 = .ok (.invokestatic 169, 3) := by decide +kernel
theorem dL_changes_209 : decode cL_changes 209 = .ok (.invokestatic 181, 3) := by decide +kernel
theorem dL_changes_212 : decode cL_changes 212 = .ok (.ifCond .lt 7, 3) := by decide +kernel
theorem dL_changes_215 : decode cL_changes 215 = .ok (.iconst 1, 1) := by decide +kernel
theorem dL_changes_216 : decode cL_changes 216 = .ok (.goto 4, 3) := by decide +kernel
theorem dL_changes_219 : decode cL_changes 219 = .ok (.iconst 0, 1) := by decide +kernel
theorem dL_changes_220 : decode cL_changes 220 = .ok (.ireturn, 1) := by decide +kernel
theorem dL_changes_221 : decode cL_changes 221 = .ok (.aload_n 0, 1) := by decide +kernel
theorem dL_changes_222 : decode cL_changes 222 = .ok (.iload_n 2, 1) := by decide +kernel
theorem dL_changes_223 : decode cL_changes 223 = .ok (.iload_n 1, 1) := by decide +kernel
theorem dL_changes_224 : decode cL_changes 224 = .ok (.bipush 7, 2) := by decide +kernel
theorem dL_changes_226 : decode cL_changes 226 = .ok (.ishr, 1) := by decide +kernel
theorem dL_changes_227 : decode cL_changes 227 = .ok (.aload_n 0, 1) := by decide +kernel
theorem dL_changes_228 : decode cL_changes 228 = .ok (.iconst 5, 1) := by decide +kernel
theorem dL_changes_229 : decode cL_changes 229 = .ok (.invokestatic 205, 3) := by decide +kernel
theorem dL_changes_232 : decode cL_changes 232 = .ok (.iconst 1, 1) := by decide +kernel
theorem dL_changes_233 : decode cL_changes 233 = .ok (.iadd, 1) := by decide +kernel
theorem dL_changes_234 : decode cL_changes 234 = .ok (.invokestatic 169, 3) := by decide +kernel
theorem dL_changes_237 : decode cL_changes 237 = .ok (.iload_n 3, 1) := by decide +kernel
theorem dL_changes_238 : decode cL_changes 238 = .ok (.invokestatic 234, 3) := by decide +kernel
theorem dL_changes_241 : decode cL_changes 241 = .ok (.ifCond .lt 7, 3) := by decide +kernel
theorem dL_changes_244 : decode cL_changes 244 = .ok (.iconst 1, 1) := by decide +kernel
theorem dL_changes_245 : decode cL_changes 245 = .ok (.goto 4, 3) := by decide +kernel
theorem dL_changes_248 : decode cL_changes 248 = .ok (.iconst 0, 1) := by decide +kernel
theorem dL_changes_249 : decode cL_changes 249 = .ok (.ireturn, 1) := by decide +kernel
theorem dL_changes_250 : decode cL_changes 250 = .ok (.aload_n 0, 1) := by decide +kernel
theorem dL_changes_251 : decode cL_changes 251 = .ok (.iload_n 2, 1) := by decide +kernel
theorem dL_changes_252 : decode cL_changes 252 = .ok (.iload_n 3, 1) := by decide +kernel
theorem dL_changes_253 : decode cL_changes 253 = .ok (.invokestatic 237, 3) := by decide +kernel
theorem dL_changes_256 : decode cL_changes 256 = .ok (.ifCond .lt 7, 3) := by decide +kernel
theorem dL_changes_259 : decode cL_changes 259 = .ok (.iconst 1, 1) := by decide +kernel
theorem dL_changes_260 : decode cL_changes 260 = .ok (.goto 4, 3) := by decide +kernel
theorem dL_changes_263 : decode cL_changes 263 = .ok (.iconst 0, 1) := by decide +kernel
theorem dL_changes_264 : decode cL_changes 264 = .ok (.ireturn, 1) := by decide +kernel
theorem dL_changes_265 : decode cL_changes 265 = .ok (.aload_n 0, 1) := by decide +kernel
theorem dL_changes_266 : decode cL_changes 266 = .ok (.iload_n 1, 1) := by decide +kernel
theorem dL_changes_267 : decode cL_changes 267 = .ok (.iconst 4, 1) := by decide +kernel
theorem dL_changes_268 : decode cL_changes 268 = .ok (.ishr, 1) := by decide +kernel
theorem dL_changes_269 : decode cL_changes 269 = .ok (.bipush 101, 2) := by decide +kernel
theorem dL_changes_271 : decode cL_changes 271 = .ok (.invokestatic 169, 3) := by decide +kernel
theorem dL_changes_274 : decode cL_changes 274 = .ok (.invokestatic 179, 3) := by decide +kernel
theorem dL_changes_277 : decode cL_changes 277 = .ok (.ifCond .lt 7, 3) := by decide +kernel
theorem dL_changes_280 : decode cL_changes 280 = .ok (.iconst 1, 1) := by decide +kernel
theorem dL_changes_281 : decode cL_changes 281 = .ok (.goto 4, 3) := by decide +kernel
theorem dL_changes_284 : decode cL_changes 284 = .ok (.iconst 0, 1) := by decide +kernel
theorem dL_changes_285 : decode cL_changes 285 = .ok (.ireturn, 1) := by decide +kernel
theorem dL_changes_286 : decode cL_changes 286 = .ok (.aload_n 0, 1) := by decide +kernel
theorem dL_changes_287 : decode cL_changes 287 = .ok (.iload_n 1, 1) := by decide +kernel
theorem dL_changes_288 : decode cL_changes 288 = .ok (.iconst 4, 1) := by decide +kernel
theorem dL_changes_289 : decode cL_changes 289 = .ok (.ishr, 1) := by decide +kernel
theorem dL_changes_290 : decode cL_changes 290 = .ok (.bipush 101, 2) := by decide +kernel
theorem dL_changes_292 : decode cL_changes 292 = .ok (.invokestatic 169, 3) := by decide +kernel
theorem dL_changes_295 : decode cL_changes 295 = .ok (.invokestatic 239, 3) := by decide +kernel
theorem dL_changes_298 : decode cL_changes 298 = .ok (.ifCond .lt 7, 3) := by decide +kernel
theorem dL_changes_301 : decode cL_changes 301 = .ok (.iconst 1, 1) := by decide +kernel
theorem dL_changes_302 : decode cL_changes 302 = .ok (.goto 4, 3) := by decide +kernel
theorem dL_changes_305 : decode cL_changes 305 = .ok (.iconst 0, 1) := by decide +kernel
theorem dL_changes_306 : decode cL_changes 306 = .ok (.ireturn, 1) := by decide +kernel
theorem dL_changes_307 : decode cL_changes 307 = .ok (.aload_n 0, 1) := by decide +kernel
theorem dL_changes_308 : decode cL_changes 308 = .ok (.iload 4, 2) := by decide +kernel
theorem dL_changes_310 : decode cL_changes 310 = .ok (.invokestatic 241, 3) := by decide +kernel
theorem dL_changes_313 : decode cL_changes 313 = .ok (.ifCond .lt 7, 3) := by decide +kernel
theorem dL_changes_316 : decode cL_changes 316 = .ok (.iconst 1, 1) := by decide +kernel
theorem dL_changes_317 : decode cL_changes 317 = .ok (.goto 4, 3) := by decide +kernel
theorem dL_changes_320 : decode cL_changes 320 = .ok (.iconst 0, 1) := by decide +kernel
theorem dL_changes_321 : decode cL_changes 321 = .ok (.ireturn, 1) := by decide +kernel
theorem dL_changes_322 : decode cL_changes 322 = .ok (.aload_n 0, 1) := by decide +kernel
theorem dL_changes_323 : decode cL_changes 323 = .ok (.iload 4, 2) := by decide +kernel
theorem dL_changes_325 : decode cL_changes 325 = .ok (.invokestatic 243, 3) := by decide +kernel
theorem dL_changes_328 : decode cL_changes 328 = .ok (.ifCond .lt 7, 3) := by decide +kernel
theorem dL_changes_331 : decode cL_changes 331 = .ok (.iconst 1, 1) := by decide +kernel
theorem dL_changes_332 : decode cL_changes 332 = .ok (.goto 4, 3) := by decide +kernel
theorem dL_changes_335 : decode cL_changes 335 = .ok (.iconst 0, 1) := by decide +kernel
theorem dL_changes_336 : decode cL_changes 336 = .ok (.ireturn, 1) := by decide +kernel
theorem dL_changes_337 : decode cL_changes 337 = .ok (.aload_n 0, 1) := by decide +kernel
theorem dL_changes_338 : decode cL_changes 338 = .ok (.iload 4, 2) := by decide +kernel
theorem dL_changes_340 : decode cL_changes 340 = .ok (.invokestatic 245, 3) := by decide +kernel
theorem dL_changes_343 : decode cL_changes 343 = .ok (.ifCond .lt 7, 3) := by decide +kernel
theorem dL_changes_346 : decode cL_changes 346 = .ok (.iconst 1, 1) := by decide +kernel
theorem dL_changes_347 : decode cL_changes 347 = .ok (.goto 4, 3) := by decide +kernel
theorem dL_changes_350 : decode cL_changes 350 = .ok (.iconst 0, 1) := by decide +kernel
theorem dL_changes_351 : decode cL_changes 351 = .ok (.ireturn, 1) := by decide +kernel
theorem dL_changes_352 : decode cL_changes 352 = .ok (.aload_n 0, 1) := by decide +kernel
theorem dL_changes_353 : decode cL_changes 353 = .ok (.iload_n 1, 1) := by decide +kernel
theorem dL_changes_354 : decode cL_changes 354 = .ok (.iconst 4, 1) := by decide +kernel
theorem dL_changes_355 : decode cL_changes 355 = .ok (.ishr, 1) := by decide +kernel
theorem dL_changes_356 : decode cL_changes 356 = .ok (.bipush 102, 2) := by decide +kernel
theorem dL_changes_358 : decode cL_changes 358 = .ok (.invokestatic 169, 3) := by decide +kernel
theorem dL_changes_361 : decode cL_changes 361 = .ok (.invokestatic 247, 3) := by decide +kernel
theorem dL_changes_364 : decode cL_changes 364 = .ok (.ifCond .lt 7, 3) := by decide +kernel
theorem dL_changes_367 : decode cL_changes 367 = .ok (.iconst 1, 1) := by decide +kernel
theorem dL_changes_368 : decode cL_changes 368 = .ok (.goto 4, 3) := by decide +kernel
theorem dL_changes_371 : decode cL_changes 371 = .ok (.iconst 0, 1) := by decide +kernel
theorem dL_changes_372 : decode cL_changes 372 = .ok (.ireturn, 1) := by decide +kernel
theorem dL_changes_373 : decode cL_changes 373 = .ok (.aload_n 0, 1) := by decide +kernel
theorem dL_changes_374 : decode cL_changes 374 = .ok (.iload_n 1, 1) := by decide +kernel
theorem dL_changes_375 : decode cL_changes 375 = .ok (.iconst 4, 1) := by decide +kernel
theorem dL_changes_376 : decode cL_changes 376 = .ok (.ishr, 1) := by decide +kernel
theorem dL_changes_377 : decode cL_changes 377 = .ok (.bipush 50, 2) := by decide +kernel
theorem dL_changes_379 : decode cL_changes 379 = .ok (.invokestatic 169, 3) := by decide +kernel
theorem dL_changes_382 : decode cL_changes 382 = .ok (.invokestatic 183, 3) := by decide +kernel
theorem dL_changes_385 : decode cL_changes 385 = .ok (.ifCond .lt 7, 3) := by decide +kernel
theorem dL_changes_388 : decode cL_changes 388 = .ok (.iconst 1, 1) := by decide +kernel
theorem dL_changes_389 : decode cL_changes 389 = .ok (.goto 4, 3) := by decide +kernel
theorem dL_changes_392 : decode cL_changes 392 = .ok (.iconst 0, 1) := by decide +kernel
theorem dL_changes_393 : decode cL_changes 393 = .ok (.ireturn, 1) := by decide +kernel
theorem dL_changes_394 : decode cL_changes 394 = .ok (.aload_n 0, 1) := by decide +kernel
theorem dL_changes_395 : decode cL_changes 395 = .ok (.iload_n 1, 1) := by decide +kernel
theorem dL_changes_396 : decode cL_changes 396 = .ok (.bipush 6, 2) := by decide +kernel
theorem dL_changes_398 : decode cL_changes 398 = .ok (.ishr, 1) := by decide +kernel
theorem dL_changes_399 : decode cL_changes 399 = .ok (.iconst 1, 1) := by decide +kernel
theorem dL_changes_400 : decode cL_changes 400 = .ok (.iand, 1) := by decide +kernel
theorem dL_changes_401 : decode cL_changes 401 = .ok (.ifCond .ne 49, 3) := by decide +kernel
theorem dL_changes_404 : decode cL_changes 404 = .ok (.new 249, 3) := by decide +kernel
theorem dL_changes_407 : decode cL_changes 407 = .ok (.dup, 1) := by decide +kernel
theorem dL_changes_408 : decode cL_changes 408 = .ok (.invokespecial 251, 3) := by decide +kernel
theorem dL_changes_411 : decode cL_changes 411 = .ok (.ldc 252, 2) := by decide +kernel
theorem dL_changes_413 : decode cL_changes 413 = .ok (.invokevirtual 254, 3) := by decide +kernel
theorem dL_changes_416 : decode cL_changes 416 = .ok (.iload_n 1, 1) := by decide +kernel
theorem dL_changes_417 : decode cL_changes 417 = .ok (.iconst 3, 1) := by decide +kernel
theorem dL_changes_418 : decode cL_changes 418 = .ok (.ishr, 1) := by decide +kernel
theorem dL_changes_419 : decode cL_changes 419 = .ok (.bipush 12, 2) := by decide +kernel
theorem dL_changes_421 : decode cL_changes 421 = .ok (.invokestatic 169, 3) := by decide +kernel
theorem dL_changes_424 : decode cL_changes 424 = .ok (.invokevirtual 257, 3) := by decide +kernel
theorem dL_changes_427 : decode cL_changes 427 = .ok (.ldc_w 260, 3) := by decide +kernel
theorem dL_changes_430 : decode cL_changes 430 = .ok (.invokevirtual 254, 3) := by decide +kernel
theorem dL_changes_433 : decode cL_changes 433 = .ok (.iload_n 1, 1) := by decide +kernel
theorem dL_changes_434 : decode cL_changes 434 = .ok (.iconst 5, 1) := by decide +kernel
theorem dL_changes_435 : decode cL_changes 435 = .ok (.ishr, 1) := by decide +kernel
theorem dL_changes_436 : decode cL_changes 436 = .ok (.bipush 100, 2) := by decide +kernel
theorem dL_changes_438 : decode cL_changes 438 = .ok (.invokestatic 169, 3) := by decide +kernel
theorem dL_changes_441 : decode cL_changes 441 = .ok (.invokevirtual 257, 3) := by decide +kernel
theorem dL_changes_444 : decode cL_changes 444 = .ok (.invokevirtual 262, 3) := by decide +kernel
theorem dL_changes_447 : decode cL_changes 447 = .ok (.goto 80, 3) := by decide +kernel
theorem dL_changes_450 : decode cL_changes 450 = .ok (.new 249, 3) := by decide +kernel
theorem dL_changes_453 : decode cL_changes 453 = .ok (.dup, 1) := by decide +kernel
theorem dL_changes_454 : decode cL_changes 454 = .ok (.invokespecial 251, 3) := by decide +kernel
theorem dL_changes_457 : decode cL_changes 457 = .ok (.ldc_w 266, 3) := by decide +kernel
theorem dL_changes_460 : decode cL_changes 460 = .ok (.invokevirtual 254, 3) := by decide +kernel
theorem dL_changes_463 : decode cL_changes 463 = .ok (.iload_n 1, 1) := by decide +kernel
theorem dL_changes_464 : decode cL_changes 464 = .ok (.iconst 3, 1) := by decide +kernel
theorem dL_changes_465 : decode cL_changes 465 = .ok (.ishr, 1) := by decide +kernel
theorem dL_changes_466 : decode cL_changes 466 = .ok (.bipush 7, 2) := by decide +kernel
theorem dL_changes_468 : decode cL_changes 468 = .ok (.invokestatic 169, 3) := by decide +kernel
theorem dL_changes_471 : decode cL_changes 471 = .ok (.invokevirtual 257, 3) := by decide +kernel
theorem dL_changes_474 : decode cL_changes 474 = .ok (.ldc_w 268, 3) := by decide +kernel
theorem dL_changes_477 : decode cL_changes 477 = .ok (.invokevirtual 254, 3) := by decide +kernel
theorem dL_changes_480 : decode cL_changes 480 = .ok (.iload_n 1, 1) := by decide +kernel
theorem dL_changes_481 : decode cL_changes 481 = .ok (.iconst 5, 1) := by decide +kernel
theorem dL_changes_482 : decode cL_changes 482 = .ok (.ishr, 1) := by decide +kernel
theorem dL_changes_483 : decode cL_changes 483 = .ok (.bipush 7, 2) := by decide +kernel
theorem dL_changes_485 : decode cL_changes 485 = .ok (.invokestatic 169, 3) := by decide +kernel
theorem dL_changes_488 : decode cL_changes 488 = .ok (.invokevirtual 257, 3) := by decide +kernel
theorem dL_changes_491 : decode cL_changes 491 = .ok (.ldc_w 270, 3) := by decide +kernel
theorem dL_changes_494 : decode cL_changes 494 = .ok (.invokevirtual 254, 3) := by decide +kernel
theorem dL_changes_497 : decode cL_changes 497 = .ok (.iload_n 1, 1) := by decide +kernel
theorem dL_changes_498 : decode cL_changes 498 = .ok (.iconst 4, 1) := by decide +kernel
theorem dL_changes_499 : decode cL_changes 499 = .ok (.ishr, 1) := by decide +kernel
theorem dL_changes_500 : decode cL_changes 500 = .ok (.iconst 4, 1) := by decide +kernel
theorem dL_changes_501 : decode cL_changes 501 = .ok (.invokestatic 169, 3) := by decide +kernel
theorem dL_changes_504 : decode cL_changes 504 = .ok (.invokevirtual 257, 3) := by decide +kernel
theorem dL_changes_507 : decode cL_changes 507 = .ok (.ldc_w 272, 3) := by decide +kernel
theorem dL_changes_510 : decode cL_changes 510 = .ok (.invokevirtual 254, 3) := by decide +kernel
theorem dL_changes_513 : decode cL_changes 513 = .ok (.iload_n 1, 1) := by decide +kernel
theorem dL_changes_514 : decode cL_changes 514 = .ok (.bipush 7, 2) := by decide +kernel
theorem dL_changes_516 : decode cL_changes 516 = .ok (.ishr, 1) := by decide +kernel
theorem dL_changes_517 : decode cL_changes 517 = .ok (.iconst 3, 1) := by decide +kernel
theorem dL_changes_518 : decode cL_changes 518 = .ok (.invokestatic 169, 3) := by decide +kernel
theorem dL_changes_521 : decode cL_changes 521 = .ok (.invokevirtual 257, 3) := by decide +kernel
theorem dL_changes_524 : decode cL_changes 524 = .ok (.invokevirtual 262, 3) := by decide +kernel
theorem dL_changes_527 : decode cL_changes 527 = .ok (.invokestatic 274, 3) := by decide +kernel
theorem dL_changes_530 : decode cL_changes 530 = .ok (.ifCond .lt 7, 3) := by decide +kernel
theorem dL_changes_533 : decode cL_changes 533 = .ok (.iconst 1, 1) := by decide +kernel
theorem dL_changes_534 : decode cL_changes 534 = .ok (.goto 4, 3) := by decide +kernel
theorem dL_changes_537 : decode cL_changes 537 = .ok (.iconst 0, 1) := by decide +kernel
theorem dL_changes_538 : decode cL_changes 538 = .ok (.ireturn, 1) := by decide +kernel
theorem dL_refused_0 : decode cL_refused 0 = .ok (.aload_n 0, 1) := by decide +kernel
theorem dL_refused_1 : decode cL_refused 1 = .ok (.invokestatic 278, 3) := by decide +kernel
theorem dL_refused_4 : decode cL_refused 4 = .ok (.lstore_n 1, 1) := by decide +kernel
theorem dL_refused_5 : decode cL_refused 5 = .ok (.aload_n 0, 1) := by decide +kernel
theorem dL_refused_6 : decode cL_refused 6 = .ok (.iconst 4, 1) := by decide +kernel
theorem dL_refused_7 : decode cL_refused 7 = .ok (.invokestatic 205, 3) := by decide +kernel
theorem dL_refused_10 : decode cL_refused 10 = .ok (.istore_n 3, 1) := by decide +kernel
theorem dL_refused_11 : decode cL_refused 11 = .ok (.aload_n 0, 1) := by decide +kernel
theorem dL_refused_12 : decode cL_refused 12 = .ok (.iconst 5, 1) := by decide +kernel
theorem dL_refused_13 : decode cL_refused 13 = .ok (.invokestatic 205, 3) := by decide +kernel
theorem dL_refused_16 : decode cL_refused 16 = .ok (.istore 4, 2) := by decide +kernel
theorem dL_refused_18 : decode cL_refused 18 = .ok (.aload_n 0, 1) := by decide +kernel
theorem dL_refused_19 : decode cL_refused 19 = .ok (.bipush 6, 2) := by decide +kernel
theorem dL_refused_21 : decode cL_refused 21 = .ok (.invokestatic 205, 3) := by decide +kernel
theorem dL_refused_24 : decode cL_refused 24 = .ok (.istore 5, 2) := by decide +kernel
theorem dL_refused_26 : decode cL_refused 26 = .ok (.aload_n 0, 1) := by decide +kernel
theorem dL_refused_27 : decode cL_refused 27 = .ok (.bipush 8, 2) := by decide +kernel
theorem dL_refused_29 : decode cL_refused 29 = .ok (.invokestatic 205, 3) := by decide +kernel
theorem dL_refused_32 : decode cL_refused 32 = .ok (.istore 6, 2) := by decide +kernel
theorem dL_refused_34 : decode cL_refused 34 = .ok (.aload_n 0, 1) := by decide +kernel
theorem dL_refused_35 : decode cL_refused 35 = .ok (.iconst (-1), 1) := by decide +kernel
theorem dL_refused_36 : decode cL_refused 36 = .ok (.invokestatic 172, 3) := by decide +kernel
theorem dL_refused_39 : decode cL_refused 39 = .ok (.sipush (-1001), 3) := by decide +kernel
theorem dL_refused_42 : decode cL_refused 42 = .ok (.if_icmp .ne 403, 3) := by decide +kernel
theorem dL_refused_45 : decode cL_refused 45 = .ok (.aload_n 0, 1) := by decide +kernel
theorem dL_refused_46 : decode cL_refused 46 = .ok (.iconst 1, 1) := by decide +kernel
theorem dL_refused_47 : decode cL_refused 47 = .ok (.iconst 0, 1) := by decide +kernel
theorem dL_refused_48 : decode cL_refused 48 = .ok (.iconst 0, 1) := by decide +kernel
theorem dL_refused_49 : decode cL_refused 49 = .ok (.invokestatic 282, 3) := by decide +kernel
theorem dL_refused_52 : decode cL_refused 52 = .ok (.ifCond .eq 393, 3) := by decide +kernel
theorem dL_refused_55 : decode cL_refused 55 = .ok (.aload_n 0, 1) := by decide +kernel
theorem dL_refused_56 : decode cL_refused 56 = .ok (.bipush 100, 2) := by decide +kernel
theorem dL_refused_58 : decode cL_refused 58 = .ok (.invokestatic 172, 3) := by decide +kernel
theorem dL_refused_61 : decode cL_refused 61 = .ok (.sipush (-1001), 3) := by decide +kernel
theorem dL_refused_64 : decode cL_refused 64 = .ok (.if_icmp .ne 381, 3) := by decide +kernel
theorem dL_refused_67 : decode cL_refused 67 = .ok (.aload_n 0, 1) := by decide +kernel
theorem dL_refused_68 : decode cL_refused 68 = .ok (.aload_n 0, 1) := by decide +kernel
theorem dL_refused_69 : decode cL_refused 69 = .ok (.iconst 1, 1) := by decide +kernel
theorem dL_refused_70 : decode cL_refused 70 = .ok (.invokestatic 207, 3) := by decide +kernel
theorem dL_refused_73 : decode cL_refused 73 = .ok (.invokestatic 172, 3) := by decide +kernel
theorem dL_refused_76 : decode cL_refused 76 = .ok (.sipush (-1001), 3) := by decide +kernel
theorem dL_refused_79 : decode cL_refused 79 = .ok (.if_icmp .ne 366, 3) := by decide +kernel
theorem dL_refused_82 : decode cL_refused 82 = .ok (.aload_n 0, 1) := by decide +kernel
theorem dL_refused_83 : decode cL_refused 83 = .ok (.iconst 4, 1) := by decide +kernel
theorem dL_refused_84 : decode cL_refused 84 = .ok (.iconst 1, 1) := by decide +kernel
theorem dL_refused_85 : decode cL_refused 85 = .ok (.iconst 0, 1) := by decide +kernel
theorem dL_refused_86 : decode cL_refused 86 = .ok (.invokestatic 282, 3) := by decide +kernel
theorem dL_refused_89 : decode cL_refused 89 = .ok (.ifCond .eq 356, 3) := by decide +kernel
theorem dL_refused_92 : decode cL_refused 92 = .ok (.aload_n 0, 1) := by decide +kernel
theorem dL_refused_93 : decode cL_refused 93 = .ok (.bipush 100, 2) := by decide +kernel
theorem dL_refused_95 : decode cL_refused 95 = .ok (.iconst 1, 1) := by decide +kernel
theorem dL_refused_96 : decode cL_refused 96 = .ok (.invokestatic 174, 3) := by decide +kernel
theorem dL_refused_99 : decode cL_refused 99 = .ok (.sipush (-1001), 3) := by decide +kernel
theorem dL_refused_102 : decode cL_refused 102 = .ok (.if_icmp .ne 343, 3) := by decide +kernel
theorem dL_refused_105 : decode cL_refused 105 = .ok (.aload_n 0, 1) := by decide +kernel
theorem dL_refused_106 : decode cL_refused 106 = .ok (.iconst 1, 1) := by decide +kernel
theorem dL_refused_107 : decode cL_refused 107 = .ok (.iconst 0, 1) := by decide +kernel
theorem dL_refused_108 : decode cL_refused 108 = .ok (.iconst 0, 1) := by decide +kernel
theorem dL_refused_109 : decode cL_refused 109 = .ok (.invokestatic 282, 3) := by decide +kernel
theorem dL_refused_112 : decode cL_refused 112 = .ok (.ifCond .eq 333, 3) := by decide +kernel
theorem dL_refused_115 : decode cL_refused 115 = .ok (.aload_n 0, 1) := by decide +kernel
theorem dL_refused_116 : decode cL_refused 116 = .ok (.iconst 0, 1) := by decide +kernel
theorem dL_refused_117 : decode cL_refused 117 = .ok (.iconst 0, 1) := by decide +kernel
theorem dL_refused_118 : decode cL_refused 118 = .ok (.invokestatic 174, 3) := by decide +kernel
theorem dL_refused_121 : decode cL_refused 121 = .ok (.sipush (-1001), 3) := by decide +kernel
theorem dL_refused_124 : decode cL_refused 124 = .ok (.if_icmp .ne 321, 3) := by decide +kernel
theorem dL_refused_127 : decode cL_refused 127 = .ok (.aload_n 0, 1) := by decide +kernel
theorem dL_refused_128 : decode cL_refused 128 = .ok (.iconst 0, 1) := by decide +kernel
theorem dL_refused_129 : decode cL_refused 129 = .ok (.bipush 10, 2) := by decide +kernel
theorem dL_refused_131 : decode cL_refused 131 = .ok (.invokestatic 174, 3) := by decide +kernel
theorem dL_refused_134 : decode cL_refused 134 = .ok (.sipush (-1001), 3) := by decide +kernel
theorem dL_refused_137 : decode cL_refused 137 = .ok (.if_icmp .ne 308, 3) := by decide +kernel
theorem dL_refused_140 : decode cL_refused 140 = .ok (.aload_n 0, 1) := by decide +kernel
theorem dL_refused_141 : decode cL_refused 141 = .ok (.bipush 10, 2) := by decide +kernel
theorem dL_refused_143 : decode cL_refused 143 = .ok (.invokestatic 181, 3) := by decide +kernel
theorem dL_refused_146 : decode cL_refused 146 = .ok (.sipush (-1001), 3) := by decide +kernel
theorem dL_refused_149 : decode cL_refused 149 = .ok (.if_icmp .ne 296, 3) := by decide +kernel
theorem dL_refused_152 : decode cL_refused 152 = .ok (.aload_n 0, 1) := by decide +kernel
theorem dL_refused_153 : decode cL_refused 153 = .ok (.iconst (-1), 1) := by decide +kernel
theorem dL_refused_154 : decode cL_refused 154 = .ok (.invokestatic 181, 3) := by decide +kernel
theorem dL_refused_157 : decode cL_refused 157 = .ok (.sipush (-1001), 3) := by decide +kernel
theorem dL_refused_160 : decode cL_refused 160 = .ok (.if_icmp .ne 285, 3) := by decide +kernel
theorem dL_refused_163 : decode cL_refused 163 = .ok (.aload_n 0, 1) := by decide +kernel
theorem dL_refused_164 : decode cL_refused 164 = .ok (.iload_n 3, 1) := by decide +kernel
theorem dL_refused_165 : decode cL_refused 165 = .ok (.iload 4, 2) := by decide +kernel
theorem dL_refused_167 : decode cL_refused 167 = .ok (.iload 5, 2) := by decide +kernel
theorem dL_refused_169 : decode cL_refused 169 = .ok (.invokestatic 234, 3) := by decide +kernel
theorem dL_refused_172 : decode cL_refused 172 = .ok (.sipush (-1001), 3) := by decide +kernel
theorem dL_refused_175 : decode cL_refused 175 = .ok (.if_icmp .ne 270, 3) := by decide +kernel
theorem dL_refused_178 : decode cL_refused 178 = .ok (.aload_n 0, 1) := by decide +kernel
theorem dL_refused_179 : decode cL_refused 179 = .ok (.iconst 3, 1) := by decide +kernel
theorem dL_refused_180 : decode cL_refused 180 = .ok (.iload_n 3, 1) := by decide +kernel
theorem dL_refused_181 : decode cL_refused 181 = .ok (.iconst 0, 1) := by decide +kernel
theorem dL_refused_182 : decode cL_refused 182 = .ok (.invokestatic 282, 3) := by decide +kernel
theorem dL_refused_185 : decode cL_refused 185 = .ok (.ifCond .eq 260, 3) := by decide +kernel
theorem dL_refused_188 : decode cL_refused 188 = .ok (.aload_n 0, 1) := by decide +kernel
theorem dL_refused_189 : decode cL_refused 189 = .ok (.iconst 0, 1) := by decide +kernel
theorem dL_refused_190 : decode cL_refused 190 = .ok (.iload 4, 2) := by decide +kernel
theorem dL_refused_192 : decode cL_refused 192 = .ok (.iconst (-1), 1) := by decide +kernel
theorem dL_refused_193 : decode cL_refused 193 = .ok (.invokestatic 234, 3) := by decide +kernel
theorem dL_refused_196 : decode cL_refused 196 = .ok (.sipush (-1001), 3) := by decide +kernel
theorem dL_refused_199 : decode cL_refused 199 = .ok (.if_icmp .ne 246, 3) := by decide +kernel
theorem dL_refused_202 : decode cL_refused 202 = .ok (.aload_n 0, 1) := by decide +kernel
theorem dL_refused_203 : decode cL_refused 203 = .ok (.iconst 3, 1) := by decide +kernel
theorem dL_refused_204 : decode cL_refused 204 = .ok (.iload 4, 2) := by decide +kernel
theorem dL_refused_206 : decode cL_refused 206 = .ok (.iconst 0, 1) := by decide +kernel
theorem dL_refused_207 : decode cL_refused 207 = .ok (.invokestatic 282, 3) := by decide +kernel
theorem dL_refused_210 : decode cL_refused 210 = .ok (.ifCond .eq 235, 3) := by decide +kernel
theorem dL_refused_213 : decode cL_refused 213 = .ok (.aload_n 0, 1) := by decide +kernel
theorem dL_refused_214 : decode cL_refused 214 = .ok (.iconst 0, 1) := by decide +kernel
theorem dL_refused_215 : decode cL_refused 215 = .ok (.iconst 0, 1) := by decide +kernel
theorem dL_refused_216 : decode cL_refused 216 = .ok (.iload 5, 2) := by decide +kernel
theorem dL_refused_218 : decode cL_refused 218 = .ok (.invokestatic 234, 3) := by decide +kernel
theorem dL_refused_221 : decode cL_refused 221 = .ok (.sipush (-1001), 3) := by decide +kernel
theorem dL_refused_224 : decode cL_refused 224 = .ok (.if_icmp .ne 221, 3) := by decide +kernel
theorem dL_refused_227 : decode cL_refused 227 = .ok (.aload_n 0, 1) := by decide +kernel
theorem dL_refused_228 : decode cL_refused 228 = .ok (.iconst 3, 1) := by decide +kernel
theorem dL_refused_229 : decode cL_refused 229 = .ok (.iload 5, 2) := by decide +kernel
theorem dL_refused_231 : decode cL_refused 231 = .ok (.iconst 0, 1) := by decide +kernel
theorem dL_refused_232 : decode cL_refused 232 = .ok (.invokestatic 282, 3) := by decide +kernel
theorem dL_refused_235 : decode cL_refused 235 = .ok (.ifCond .eq 210, 3) := by decide +kernel
theorem dL_refused_238 : decode cL_refused 238 = .ok (.aload_n 0, 1) := by decide +kernel
theorem dL_refused_239 : decode cL_refused 239 = .ok (.iconst (-1), 1) := by decide +kernel
theorem dL_refused_240 : decode cL_refused 240 = .ok (.iconst 0, 1) := by decide +kernel
theorem dL_refused_241 : decode cL_refused 241 = .ok (.invokestatic 237, 3) := by decide +kernel
theorem dL_refused_244 : decode cL_refused 244 = .ok (.sipush (-1001), 3) := by decide +kernel
theorem dL_refused_247 : decode cL_refused 247 = .ok (.if_icmp .ne 198, 3) := by decide +kernel
theorem dL_refused_250 : decode cL_refused 250 = .ok (.aload_n 0, 1) := by decide +kernel
theorem dL_refused_251 : decode cL_refused 251 = .ok (.iconst 3, 1) := by decide +kernel
theorem dL_refused_252 : decode cL_refused 252 = .ok (.iconst (-1), 1) := by decide +kernel
theorem dL_refused_253 : decode cL_refused 253 = .ok (.iconst 0, 1) := by decide +kernel
theorem dL_refused_254 : decode cL_refused 254 = .ok (.invokestatic 282, 3) := by decide +kernel
theorem dL_refused_257 : decode cL_refused 257 = .ok (.ifCond .eq 188, 3) := by decide +kernel
theorem dL_refused_260 : decode cL_refused 260 = .ok (.aload_n 0, 1) := by decide +kernel
theorem dL_refused_261 : decode cL_refused 261 = .ok (.iconst 0, 1) := by decide +kernel
theorem dL_refused_262 : decode cL_refused 262 = .ok (.iload 5, 2) := by decide +kernel
theorem dL_refused_264 : decode cL_refused 264 = .ok (.invokestatic 237, 3) := by decide +kernel
theorem dL_refused_267 : decode cL_refused 267 = .ok (.sipush (-1001), 3) := by decide +kernel
theorem dL_refused_270 : decode cL_refused 270 = .ok (.if_icmp .ne 175, 3) := by decide +kernel
theorem dL_refused_273 : decode cL_refused 273 = .ok (.aload_n 0, 1) := by decide +kernel
theorem dL_refused_274 : decode cL_refused 274 = .ok (.iconst 3, 1) := by decide +kernel
theorem dL_refused_275 : decode cL_refused 275 = .ok (.iload 5, 2) := by decide +kernel
theorem dL_refused_277 : decode cL_refused 277 = .ok (.iconst 0, 1) := by decide +kernel
theorem dL_refused_278 : decode cL_refused 278 = .ok (.invokestatic 282, 3) := by decide +kernel
theorem dL_refused_281 : decode cL_refused 281 = .ok (.ifCond .eq 164, 3) := by decide +kernel
theorem dL_refused_284 : decode cL_refused 284 = .ok (.aload_n 0, 1) := by decide +kernel
theorem dL_refused_285 : decode cL_refused 285 = .ok (.bipush 100, 2) := by decide +kernel
theorem dL_refused_287 : decode cL_refused 287 = .ok (.invokestatic 179, 3) := by decide +kernel
theorem dL_refused_290 : decode cL_refused 290 = .ok (.sipush (-1001), 3) := by decide +kernel
theorem dL_refused_293 : decode cL_refused 293 = .ok (.if_icmp .ne 152, 3) := by decide +kernel
theorem dL_refused_296 : decode cL_refused 296 = .ok (.aload_n 0, 1) := by decide +kernel
theorem dL_refused_297 : decode cL_refused 297 = .ok (.iconst 1, 1) := by decide +kernel
theorem dL_refused_298 : decode cL_refused 298 = .ok (.iconst 0, 1) := by decide +kernel
theorem dL_refused_299 : decode cL_refused 299 = .ok (.iconst 0, 1) := by decide +kernel
theorem dL_refused_300 : decode cL_refused 300 = .ok (.invokestatic 282, 3) := by decide +kernel
theorem dL_refused_303 : decode cL_refused 303 = .ok (.ifCond .eq 142, 3) := by decide +kernel
theorem dL_refused_306 : decode cL_refused 306 = .ok (.aload_n 0, 1) := by decide +kernel
theorem dL_refused_307 : decode cL_refused 307 = .ok (.iconst (-1), 1) := by decide +kernel
theorem dL_refused_308 : decode cL_refused 308 = .ok (.invokestatic 239, 3) := by decide +kernel
theorem dL_refused_311 : decode cL_refused 311 = .ok (.sipush (-1001), 3) := by decide +kernel
theorem dL_refused_314 : decode cL_refused 314 = .ok (.if_icmp .ne 131, 3) := by decide +kernel
theorem dL_refused_317 : decode cL_refused 317 = .ok (.aload_n 0, 1) := by decide +kernel
theorem dL_refused_318 : decode cL_refused 318 = .ok (.bipush 100, 2) := by decide +kernel
theorem dL_refused_320 : decode cL_refused 320 = .ok (.invokestatic 239, 3) := by decide +kernel
theorem dL_refused_323 : decode cL_refused 323 = .ok (.sipush (-1001), 3) := by decide +kernel
theorem dL_refused_326 : decode cL_refused 326 = .ok (.if_icmp .ne 119, 3) := by decide +kernel
theorem dL_refused_329 : decode cL_refused 329 = .ok (.aload_n 0, 1) := by decide +kernel
theorem dL_refused_330 : decode cL_refused 330 = .ok (.iload 6, 2) := by decide +kernel
theorem dL_refused_332 : decode cL_refused 332 = .ok (.invokestatic 241, 3) := by decide +kernel
theorem dL_refused_335 : decode cL_refused 335 = .ok (.sipush (-1001), 3) := by decide +kernel
theorem dL_refused_338 : decode cL_refused 338 = .ok (.if_icmp .ne 107, 3) := by decide +kernel
theorem dL_refused_341 : decode cL_refused 341 = .ok (.aload_n 0, 1) := by decide +kernel
theorem dL_refused_342 : decode cL_refused 342 = .ok (.iconst 3, 1) := by decide +kernel
theorem dL_refused_343 : decode cL_refused 343 = .ok (.iload 6, 2) := by decide +kernel
theorem dL_refused_345 : decode cL_refused 345 = .ok (.iconst 0, 1) := by decide +kernel
theorem dL_refused_346 : decode cL_refused 346 = .ok (.invokestatic 282, 3) := by decide +kernel
theorem dL_refused_349 : decode cL_refused 349 = .ok (.ifCond .eq 96, 3) := by decide +kernel
theorem dL_refused_352 : decode cL_refused 352 = .ok (.aload_n 0, 1) := by decide +kernel
theorem dL_refused_353 : decode cL_refused 353 = .ok (.iconst (-1), 1) := by decide +kernel
theorem dL_refused_354 : decode cL_refused 354 = .ok (.invokestatic 243, 3) := by decide +kernel
theorem dL_refused_357 : decode cL_refused 357 = .ok (.sipush (-1001), 3) := by decide +kernel
theorem dL_refused_360 : decode cL_refused 360 = .ok (.if_icmp .ne 85, 3) := by decide +kernel
theorem dL_refused_363 : decode cL_refused 363 = .ok (.aload_n 0, 1) := by decide +kernel
theorem dL_refused_364 : decode cL_refused 364 = .ok (.iconst 3, 1) := by decide +kernel
theorem dL_refused_365 : decode cL_refused 365 = .ok (.iconst (-1), 1) := by decide +kernel
theorem dL_refused_366 : decode cL_refused 366 = .ok (.iconst 0, 1) := by decide +kernel
theorem dL_refused_367 : decode cL_refused 367 = .ok (.invokestatic 282, 3) := by decide +kernel
theorem dL_refused_370 : decode cL_refused 370 = .ok (.ifCond .eq 75, 3) := by decide +kernel
theorem dL_refused_373 : decode cL_refused 373 = .ok (.aload_n 0, 1) := by decide +kernel
theorem dL_refused_374 : decode cL_refused 374 = .ok (.iload 6, 2) := by decide +kernel
theorem dL_refused_376 : decode cL_refused 376 = .ok (.invokestatic 245, 3) := by decide +kernel
theorem dL_refused_379 : decode cL_refused 379 = .ok (.sipush (-1001), 3) := by decide +kernel
theorem dL_refused_382 : decode cL_refused 382 = .ok (.if_icmp .ne 63, 3) := by decide +kernel
theorem dL_refused_385 : decode cL_refused 385 = .ok (.aload_n 0, 1) := by decide +kernel
theorem dL_refused_386 : decode cL_refused 386 = .ok (.iconst 0, 1) := by decide +kernel
theorem dL_refused_387 : decode cL_refused 387 = .ok (.invokestatic 247, 3) := by decide +kernel
theorem dL_refused_390 : decode cL_refused 390 = .ok (.sipush (-1001), 3) := by decide +kernel
theorem dL_refused_393 : decode cL_refused 393 = .ok (.if_icmp .ne 52, 3) := by decide +kernel
theorem dL_refused_396 : decode cL_refused 396 = .ok (.aload_n 0, 1) := by decide +kernel
theorem dL_refused_397 : decode cL_refused 397 = .ok (.bipush 101, 2) := by decide +kernel
theorem dL_refused_399 : decode cL_refused 399 = .ok (.invokestatic 247, 3) := by decide +kernel
theorem dL_refused_402 : decode cL_refused 402 = .ok (.sipush (-1001), 3) := by decide +kernel
theorem dL_refused_405 : decode cL_refused 405 = .ok (.if_icmp .ne 40, 3) := by decide +kernel
theorem dL_refused_408 : decode cL_refused 408 = .ok (.aload_n 0, 1) := by decide +kernel
theorem dL_refused_409 : decode cL_refused 409 = .ok (.iconst 0, 1) := by decide +kernel
theorem dL_refused_410 : decode cL_refused 410 = .ok (.invokestatic 183, 3) := by decide +kernel
theorem dL_refused_413 : decode cL_refused 413 = .ok (.sipush (-1001), 3) := by decide +kernel
theorem dL_refused_416 : decode cL_refused 416 = .ok (.if_icmp .ne 29, 3) := by decide +kernel
theorem dL_refused_419 : decode cL_refused 419 = .ok (.aload_n 0, 1) := by decide +kernel
theorem dL_refused_420 : decode cL_refused 420 = .ok (.bipush 49, 2) := by decide +kernel
theorem dL_refused_422 : decode cL_refused 422 = .ok (.invokestatic 183, 3) := by decide +kernel
theorem dL_refused_425 : decode cL_refused 425 = .ok (.sipush (-1001), 3) := by decide +kernel
theorem dL_refused_428 : decode cL_refused 428 = .ok (.if_icmp .ne 17, 3) := by decide +kernel
theorem dL_refused_431 : decode cL_refused 431 = .ok (.aload_n 0, 1) := by decide +kernel
theorem dL_refused_432 : decode cL_refused 432 = .ok (.iconst 1, 1) := by decide +kernel
theorem dL_refused_433 : decode cL_refused 433 = .ok (.iconst 0, 1) := by decide +kernel
theorem dL_refused_434 : decode cL_refused 434 = .ok (.iconst 0, 1) := by decide +kernel
theorem dL_refused_435 : decode cL_refused 435 = .ok (.invokestatic 282, 3) := by decide +kernel
theorem dL_refused_438 : decode cL_refused 438 = .ok (.ifCond .eq 7, 3) := by decide +kernel
theorem dL_refused_441 : decode cL_refused 441 = .ok (.iconst 1, 1) := by decide +kernel
theorem dL_refused_442 : decode cL_refused 442 = .ok (.goto 4, 3) := by decide +kernel
theorem dL_refused_445 : decode cL_refused 445 = .ok (.iconst 0, 1) := by decide +kernel
theorem dL_refused_446 : decode cL_refused 446 = .ok (.istore 7, 2) := by decide +kernel
theorem dL_refused_448 : decode cL_refused 448 = .ok (.iload 7, 2) := by decide +kernel
theorem dL_refused_450 : decode cL_refused 450 = .ok (.ifCond .eq 338, 3) := by decide +kernel
theorem dL_refused_453 : decode cL_refused 453 = .ok (.aload_n 0, 1) := by decide +kernel
theorem dL_refused_454 : decode cL_refused 454 = .ok (.iload_n 3, 1) := by decide +kernel
theorem dL_refused_455 : decode cL_refused 455 = .ok (.invokestatic 207, 3) := by decide +kernel
theorem dL_refused_458 : decode cL_refused 458 = .ok (.sipush (-1001), 3) := by decide +kernel
theorem dL_refused_461 : decode cL_refused 461 = .ok (.if_icmp .ne 327, 3) := by decide +kernel
theorem dL_refused_464 : decode cL_refused 464 = .ok (.aload_n 0, 1) := by decide +kernel
theorem dL_refused_465 : decode cL_refused 465 = .ok (.iconst (-1), 1) := by decide +kernel
theorem dL_refused_466 : decode cL_refused 466 = .ok (.invokestatic 207, 3) := by decide +kernel
theorem dL_refused_469 : decode cL_refused 469 = .ok (.sipush (-1001), 3) := by decide +kernel
theorem dL_refused_472 : decode cL_refused 472 = .ok (.if_icmp .ne 316, 3) := by decide +kernel
theorem dL_refused_475 : decode cL_refused 475 = .ok (.aload_n 0, 1) := by decide +kernel
theorem dL_refused_476 : decode cL_refused 476 = .ok (.iload 4, 2) := by decide +kernel
theorem dL_refused_478 : decode cL_refused 478 = .ok (.iconst 1, 1) := by decide +kernel
theorem dL_refused_479 : decode cL_refused 479 = .ok (.invokestatic 221, 3) := by decide +kernel
theorem dL_refused_482 : decode cL_refused 482 = .ok (.sipush (-1001), 3) := by decide +kernel
theorem dL_refused_485 : decode cL_refused 485 = .ok (.if_icmp .ne 303, 3) := by decide +kernel
theorem dL_refused_488 : decode cL_refused 488 = .ok (.aload_n 0, 1) := by decide +kernel
theorem dL_refused_489 : decode cL_refused 489 = .ok (.iload 6, 2) := by decide +kernel
theorem dL_refused_491 : decode cL_refused 491 = .ok (.bipush 9, 2) := by decide +kernel
theorem dL_refused_493 : decode cL_refused 493 = .ok (.invokestatic 224, 3) := by decide +kernel
theorem dL_refused_496 : decode cL_refused 496 = .ok (.sipush (-1001), 3) := by decide +kernel
theorem dL_refused_499 : decode cL_refused 499 = .ok (.if_icmp .ne 289, 3) := by decide +kernel
theorem dL_refused_502 : decode cL_refused 502 = .ok (.aload_n 0, 1) := by decide +kernel
theorem dL_refused_503 : decode cL_refused 503 = .ok (.iconst 0, 1) := by decide +kernel
theorem dL_refused_504 : decode cL_refused 504 = .ok (.iconst 5, 1) := by decide +kernel
theorem dL_refused_505 : decode cL_refused 505 = .ok (.invokestatic 224, 3) := by decide +kernel
theorem dL_refused_508 : decode cL_refused 508 = .ok (.sipush (-1002), 3) := by decide +kernel
theorem dL_refused_511 : decode cL_refused 511 = .ok (.if_icmp .ne 277, 3) := by decide +kernel
theorem dL_refused_514 : decode cL_refused 514 = .ok (.aload_n 0, 1) := by decide +kernel
theorem dL_refused_515 : decode cL_refused 515 = .ok (.iconst 0, 1) := by decide +kernel
theorem dL_refused_516 : decode cL_refused 516 = .ok (.iconst (-1), 1) := by decide +kernel
theorem dL_refused_517 : decode cL_refused 517 = .ok (.invokestatic 224, 3) := by decide +kernel
theorem dL_refused_520 : decode cL_refused 520 = .ok (.sipush (-1002), 3) := by decide +kernel
theorem dL_refused_523 : decode cL_refused 523 = .ok (.if_icmp .ne 265, 3) := by decide +kernel
theorem dL_refused_526 : decode cL_refused 526 = .ok (.aload_n 0, 1) := by decide +kernel
theorem dL_refused_527 : decode cL_refused 527 = .ok (.iload_n 3, 1) := by decide +kernel
theorem dL_refused_528 : decode cL_refused 528 = .ok (.iconst 0, 1) := by decide +kernel
theorem dL_refused_529 : decode cL_refused 529 = .ok (.invokestatic 211, 3) := by decide +kernel
theorem dL_refused_532 : decode cL_refused 532 = .ok (.sipush (-1001), 3) := by decide +kernel
theorem dL_refused_535 : decode cL_refused 535 = .ok (.if_icmp .ne 253, 3) := by decide +kernel
theorem dL_refused_538 : decode cL_refused 538 = .ok (.aload_n 0, 1) := by decide +kernel
theorem dL_refused_539 : decode cL_refused 539 = .ok (.iconst 0, 1) := by decide +kernel
theorem dL_refused_540 : decode cL_refused 540 = .ok (.iload 5, 2) := by decide +kernel
theorem dL_refused_542 : decode cL_refused 542 = .ok (.invokestatic 211, 3) := by decide +kernel
theorem dL_refused_545 : decode cL_refused 545 = .ok (.sipush (-1001), 3) := by decide +kernel
theorem dL_refused_548 : decode cL_refused 548 = .ok (.if_icmp .ne 240, 3) := by decide +kernel
theorem dL_refused_551 : decode cL_refused 551 = .ok (.aload_n 0, 1) := by decide +kernel
theorem dL_refused_552 : decode cL_refused 552 = .ok (.iload 5, 2) := by decide +kernel
theorem dL_refused_554 : decode cL_refused 554 = .ok (.invokestatic 228, 3) := by decide +kernel
theorem dL_refused_557 : decode cL_refused 557 = .ok (.sipush (-1001), 3) := by decide +kernel
theorem dL_refused_560 : decode cL_refused 560 = .ok (.if_icmp .ne 228, 3) := by decide +kernel
theorem dL_refused_563 : decode cL_refused 563 = .ok (.aload_n 0, 1) := by decide +kernel
theorem dL_refused_564 : decode cL_refused 564 = .ok (.iload_n 3, 1) := by decide +kernel
theorem dL_refused_565 : decode cL_refused 565 = .ok (.iconst 0, 1) := by decide +kernel
theorem dL_refused_566 : decode cL_refused 566 = .ok (.invokestatic 213, 3) := by decide +kernel
theorem dL_refused_569 : decode cL_refused 569 = .ok (.sipush (-1001), 3) := by decide +kernel
theorem dL_refused_572 : decode cL_refused 572 = .ok (.if_icmp .ne 216, 3) := by decide +kernel
theorem dL_refused_575 : decode cL_refused 575 = .ok (.aload_n 0, 1) := by decide +kernel
theorem dL_refused_576 : decode cL_refused 576 = .ok (.iconst 0, 1) := by decide +kernel
theorem dL_refused_577 : decode cL_refused 577 = .ok (.iload 4, 2) := by decide +kernel
theorem dL_refused_579 : decode cL_refused 579 = .ok (.invokestatic 213, 3) := by decide +kernel
theorem dL_refused_582 : decode cL_refused 582 = .ok (.sipush (-1001), 3) := by decide +kernel
theorem dL_refused_585 : decode cL_refused 585 = .ok (.if_icmp .ne 203, 3) := by decide +kernel
theorem dL_refused_588 : decode cL_refused 588 = .ok (.aload_n 0, 1) := by decide +kernel
theorem dL_refused_589 : decode cL_refused 589 = .ok (.iconst (-1), 1) := by decide +kernel
theorem dL_refused_590 : decode cL_refused 590 = .ok (.iconst 0, 1) := by decide +kernel
theorem dL_refused_591 : decode cL_refused 591 = .ok (.invokestatic 215, 3) := by decide +kernel
theorem dL_refused_594 : decode cL_refused 594 = .ok (.sipush (-1001), 3) := by decide +kernel
theorem dL_refused_597 : decode cL_refused 597 = .ok (.if_icmp .ne 191, 3) := by decide +kernel
theorem dL_refused_600 : decode cL_refused 600 = .ok (.aload_n 0, 1) := by decide +kernel
theorem dL_refused_601 : decode cL_refused 601 = .ok (.iconst 0, 1) := by decide +kernel
theorem dL_refused_602 : decode cL_refused 602 = .ok (.iconst (-1), 1) := by decide +kernel
theorem dL_refused_603 : decode cL_refused 603 = .ok (.invokestatic 217, 3) := by decide +kernel
theorem dL_refused_606 : decode cL_refused 606 = .ok (.sipush (-1001), 3) := by decide +kernel
theorem dL_refused_609 : decode cL_refused 609 = .ok (.if_icmp .ne 179, 3) := by decide +kernel
theorem dL_refused_612 : decode cL_refused 612 = .ok (.aload_n 0, 1) := by decide +kernel
theorem dL_refused_613 : decode cL_refused 613 = .ok (.iload_n 3, 1) := by decide +kernel
theorem dL_refused_614 : decode cL_refused 614 = .ok (.invokestatic 209, 3) := by decide +kernel
theorem dL_refused_617 : decode cL_refused 617 = .ok (.sipush (-1001), 3) := by decide +kernel
theorem dL_refused_620 : decode cL_refused 620 = .ok (.if_icmp .ne 168, 3) := by decide +kernel
theorem dL_refused_623 : decode cL_refused 623 = .ok (.aload_n 0, 1) := by decide +kernel
theorem dL_refused_624 : decode cL_refused 624 = .ok (.iconst 0, 1) := by decide +kernel
theorem dL_refused_625 : decode cL_refused 625 = .ok (.iload 4, 2) := by decide +kernel
theorem dL_refused_627 : decode cL_refused 627 = .ok (.invokestatic 219, 3) := by decide +kernel
theorem dL_refused_630 : decode cL_refused 630 = .ok (.sipush (-1001), 3) := by decide +kernel
theorem dL_refused_633 : decode cL_refused 633 = .ok (.if_icmp .ne 155, 3) := by decide +kernel
theorem dL_refused_636 : decode cL_refused 636 = .ok (.aload_n 0, 1) := by decide +kernel
theorem dL_refused_637 : decode cL_refused 637 = .ok (.iconst (-1), 1) := by decide +kernel
theorem dL_refused_638 : decode cL_refused 638 = .ok (.invokestatic 230, 3) := by decide +kernel
theorem dL_refused_641 : decode cL_refused 641 = .ok (.sipush (-1001), 3) := by decide +kernel
theorem dL_refused_644 : decode cL_refused 644 = .ok (.if_icmp .ne 144, 3) := by decide +kernel
theorem dL_refused_647 : decode cL_refused 647 = .ok (.aload_n 0, 1) := by decide +kernel
theorem dL_refused_648 : decode cL_refused 648 = .ok (.bipush 48, 2) := by decide +kernel
theorem dL_refused_650 : decode cL_refused 650 = .ok (.invokestatic 230, 3) := by decide +kernel
theorem dL_refused_653 : decode cL_refused 653 = .ok (.sipush (-1001), 3) := by decide +kernel
theorem dL_refused_656 : decode cL_refused 656 = .ok (.if_icmp .ne 132, 3) := by decide +kernel
theorem dL_refused_659 : decode cL_refused 659 = .ok (.aload_n 0, 1) := by decide +kernel
theorem dL_refused_660 : decode cL_refused 660 = .ok (.iload 6, 2) := by decide +kernel
theorem dL_refused_662 : decode cL_refused 662 = .ok (.invokestatic 226, 3) := by decide +kernel
theorem dL_refused_665 : decode cL_refused 665 = .ok (.sipush (-1001), 3) := by decide +kernel
theorem dL_refused_668 : decode cL_refused 668 = .ok (.if_icmp .ne 120, 3) := by decide +kernel
theorem dL_refused_671 : decode cL_refused 671 = .ok (.aload_n 0, 1) := by decide +kernel
theorem dL_refused_672 : decode cL_refused 672 = .ok (.iconst (-1), 1) := by decide +kernel
theorem dL_refused_673 : decode cL_refused 673 = .ok (.invokestatic 232, 3) := by decide +kernel
theorem dL_refused_676 : decode cL_refused 676 = .ok (.sipush (-1001), 3) := by decide +kernel
theorem dL_refused_679 : decode cL_refused 679 = .ok (.if_icmp .ne 109, 3) := by decide +kernel
theorem dL_refused_682 : decode cL_refused 682 = .ok (.aload_n 0, 1) := by decide +kernel
theorem dL_refused_683 : decode cL_refused 683 = .ok (.bipush 100, 2) := by decide +kernel
theorem dL_refused_685 : decode cL_refused 685 = .ok (.invokestatic 232, 3) := by decide +kernel
theorem dL_refused_688 : decode cL_refused 688 = .ok (.sipush (-1001), 3) := by decide +kernel
theorem dL_refused_691 : decode cL_refused 691 = .ok (.if_icmp .ne 97, 3) := by decide +kernel
theorem dL_refused_694 : decode cL_refused 694 = .ok (.aload_n 0, 1) := by decide +kernel
theorem dL_refused_695 : decode cL_refused 695 = .ok (.iload 5, 2) := by decide +kernel
theorem dL_refused_697 : decode cL_refused 697 = .ok (.invokestatic 161, 3) := by decide +kernel
theorem dL_refused_700 : decode cL_refused 700 = .ok (.sipush (-1001), 3) := by decide +kernel
theorem dL_refused_703 : decode cL_refused 703 = .ok (.if_icmp .ne 85, 3) := by decide +kernel
theorem dL_refused_706 : decode cL_refused 706 = .ok (.aload_n 0, 1) := by decide +kernel
theorem dL_refused_707 : decode cL_refused 707 = .ok (.iconst (-1), 1) := by decide +kernel
theorem dL_refused_708 : decode cL_refused 708 = .ok (.invokestatic 163, 3) := by decide +kernel
theorem dL_refused_711 : decode cL_refused 711 = .ok (.sipush (-1001), 3) := by decide +kernel
theorem dL_refused_714 : decode cL_refused 714 = .ok (.if_icmp .ne 74, 3) := by decide +kernel
theorem dL_refused_717 : decode cL_refused 717 = .ok (.aload_n 0, 1) := by decide +kernel
theorem dL_refused_718 : decode cL_refused 718 = .ok (.bipush 100, 2) := by decide +kernel
theorem dL_refused_720 : decode cL_refused 720 = .ok (.invokestatic 163, 3) := by decide +kernel
theorem dL_refused_723 : decode cL_refused 723 = .ok (.sipush (-1001), 3) := by decide +kernel
theorem dL_refused_726 : decode cL_refused 726 = .ok (.if_icmp .ne 62, 3) := by decide +kernel
theorem dL_refused_729 : decode cL_refused 729 = .ok (.aload_n 0, 1) := by decide +kernel
theorem dL_refused_730 : decode cL_refused 730 = .ok (.bipush 17, 2) := by decide +kernel
theorem dL_refused_732 : decode cL_refused 732 = .ok (.invokestatic 205, 3) := by decide +kernel
theorem dL_refused_735 : decode cL_refused 735 = .ok (.sipush (-1001), 3) := by decide +kernel
theorem dL_refused_738 : decode cL_refused 738 = .ok (.if_icmp .ne 50, 3) := by decide +kernel
theorem dL_refused_741 : decode cL_refused 741 = .ok (.aload_n 0, 1) := by decide +kernel
theorem dL_refused_742 : decode cL_refused 742 = .ok (.iconst (-1), 1) := by decide +kernel
theorem dL_refused_743 : decode cL_refused 743 = .ok (.invokestatic 205, 3) := by decide +kernel
theorem dL_refused_746 : decode cL_refused 746 = .ok (.sipush (-1001), 3) := by decide +kernel
theorem dL_refused_749 : decode cL_refused 749 = .ok (.if_icmp .ne 39, 3) := by decide +kernel
theorem dL_refused_752 : decode cL_refused 752 = .ok (.aload_n 0, 1) := by decide +kernel
theorem dL_refused_753 : decode cL_refused 753 = .ok (.iconst 3, 1) := by decide +kernel
theorem dL_refused_754 : decode cL_refused 754 = .ok (.invokestatic 158, 3) := by decide +kernel
theorem dL_refused_757 : decode cL_refused 757 = .ok (.sipush (-1001), 3) := by decide +kernel
theorem dL_refused_760 : decode cL_refused 760 = .ok (.if_icmp .ne 28, 3) := by decide +kernel
theorem dL_refused_763 : decode cL_refused 763 = .ok (.aload_n 0, 1) := by decide +kernel
theorem dL_refused_764 : decode cL_refused 764 = .ok (.iconst (-1), 1) := by decide +kernel
theorem dL_refused_765 : decode cL_refused 765 = .ok (.invokestatic 158, 3) := by decide +kernel
theorem dL_refused_768 : decode cL_refused 768 = .ok (.sipush (-1001), 3) := by decide +kernel
theorem dL_refused_771 : decode cL_refused 771 = .ok (.if_icmp .ne 17, 3) := by decide +kernel
theorem dL_refused_774 : decode cL_refused 774 = .ok (.aload_n 0, 1) := by decide +kernel
theorem dL_refused_775 : decode cL_refused 775 = .ok (.iconst 1, 1) := by decide +kernel
theorem dL_refused_776 : decode cL_refused 776 = .ok (.iconst 0, 1) := by decide +kernel
theorem dL_refused_777 : decode cL_refused 777 = .ok (.iconst 0, 1) := by decide +kernel
theorem dL_refused_778 : decode cL_refused 778 = .ok (.invokestatic 282, 3) := by decide +kernel
theorem dL_refused_781 : decode cL_refused 781 = .ok (.ifCond .eq 7, 3) := by decide +kernel
theorem dL_refused_784 : decode cL_refused 784 = .ok (.iconst 1, 1) := by decide +kernel
theorem dL_refused_785 : decode cL_refused 785 = .ok (.goto 4, 3) := by decide +kernel
theorem dL_refused_788 : decode cL_refused 788 = .ok (.iconst 0, 1) := by decide +kernel
theorem dL_refused_789 : decode cL_refused 789 = .ok (.istore 7, 2) := by decide +kernel
theorem dL_refused_791 : decode cL_refused 791 = .ok (.iload 7, 2) := by decide +kernel
theorem dL_refused_793 : decode cL_refused 793 = .ok (.ifCond .eq 77, 3) := by decide +kernel
theorem dL_refused_796 : decode cL_refused 796 = .ok (.aload_n 0, 1) := by decide +kernel
theorem dL_refused_797 : decode cL_refused 797 = .ok (.ldc_w 286, 3) := by decide +kernel
theorem dL_refused_800 : decode cL_refused 800 = .ok (.invokestatic 274, 3) := by decide +kernel
theorem dL_refused_803 : decode cL_refused 803 = .ok (.sipush (-1001), 3) := by decide +kernel
theorem dL_refused_806 : decode cL_refused 806 = .ok (.if_icmp .ne 64, 3) := by decide +kernel
theorem dL_refused_809 : decode cL_refused 809 = .ok (.aload_n 0, 1) := by decide +kernel
theorem dL_refused_810 : decode cL_refused 810 = .ok (.invokevirtual 288, 3) := by decide +kernel
theorem dL_refused_813 : decode cL_refused 813 = .ok (.ifCond .ne 57, 3) := by decide +kernel
theorem dL_refused_816 : decode cL_refused 816 = .ok (.aload_n 0, 1) := by decide +kernel
theorem dL_refused_817 : decode cL_refused 817 = .ok (.iconst 1, 1) := by decide +kernel
theorem dL_refused_818 : decode cL_refused 818 = .ok (.iconst 0, 1) := by decide +kernel
theorem dL_refused_819 : decode cL_refused 819 = .ok (.iconst 0, 1) := by decide +kernel
theorem dL_refused_820 : decode cL_refused 820 = .ok (.invokestatic 282, 3) := by decide +kernel
theorem dL_refused_823 : decode cL_refused 823 = .ok (.ifCond .eq 47, 3) := by decide +kernel
theorem dL_refused_826 : decode cL_refused 826 = .ok (.aload_n 0, 1) := by decide +kernel
theorem dL_refused_827 : decode cL_refused 827 = .ok (.ldc_w 291, 3) := by decide +kernel
theorem dL_refused_830 : decode cL_refused 830 = .ok (.invokestatic 274, 3) := by decide +kernel
theorem dL_refused_833 : decode cL_refused 833 = .ok (.sipush (-1002), 3) := by decide +kernel
theorem dL_refused_836 : decode cL_refused 836 = .ok (.if_icmp .ne 34, 3) := by decide +kernel
theorem dL_refused_839 : decode cL_refused 839 = .ok (.aload_n 0, 1) := by decide +kernel
theorem dL_refused_840 : decode cL_refused 840 = .ok (.invokevirtual 288, 3) := by decide +kernel
theorem dL_refused_843 : decode cL_refused 843 = .ok (.iconst (-1), 1) := by decide +kernel
theorem dL_refused_844 : decode cL_refused 844 = .ok (.if_icmp .ne 26, 3) := by decide +kernel
theorem dL_refused_847 : decode cL_refused 847 = .ok (.aload_n 0, 1) := by decide +kernel
theorem dL_refused_848 : decode cL_refused 848 = .ok (.iconst 1, 1) := by decide +kernel
theorem dL_refused_849 : decode cL_refused 849 = .ok (.iconst 0, 1) := by decide +kernel
theorem dL_refused_850 : decode cL_refused 850 = .ok (.iconst 2, 1) := by decide +kernel
theorem dL_refused_851 : decode cL_refused 851 = .ok (.invokestatic 282, 3) := by decide +kernel
theorem dL_refused_854 : decode cL_refused 854 = .ok (.ifCond .eq 16, 3) := by decide +kernel
theorem dL_refused_857 : decode cL_refused 857 = .ok (.aload_n 0, 1) := by decide +kernel
theorem dL_refused_858 : decode cL_refused 858 = .ok (.invokestatic 278, 3) := by decide +kernel
theorem dL_refused_861 : decode cL_refused 861 = .ok (.lload_n 1, 1) := by decide +kernel
theorem dL_refused_862 : decode cL_refused 862 = .ok (.lcmp, 1) := by decide +kernel
theorem dL_refused_863 : decode cL_refused 863 = .ok (.ifCond .ne 7, 3) := by decide +kernel
theorem dL_refused_866 : decode cL_refused 866 = .ok (.iconst 1, 1) := by decide +kernel
theorem dL_refused_867 : decode cL_refused 867 = .ok (.goto 4, 3) := by decide +kernel
theorem dL_refused_870 : decode cL_refused 870 = .ok (.iconst 0, 1) := by decide +kernel
theorem dL_refused_871 : decode cL_refused 871 = .ok (.ireturn, 1) := by decide +kernel
theorem dL_law_0 : decode cL_law 0 = .ok (.new 8, 3) := by decide +kernel
theorem dL_law_3 : decode cL_law 3 = .ok (.dup, 1) := by decide +kernel
theorem dL_law_4 : decode cL_law 4 = .ok (.invokespecial 293, 3) := by decide +kernel
theorem dL_law_7 : decode cL_law 7 = .ok (.astore_n 1, 1) := by decide +kernel
theorem dL_law_8 : decode cL_law 8 = .ok (.aload_n 1, 1) := by decide +kernel
theorem dL_law_9 : decode cL_law 9 = .ok (.invokestatic 294, 3) := by decide +kernel
theorem dL_law_12 : decode cL_law 12 = .ok (.sipush (-1001), 3) := by decide +kernel
theorem dL_law_15 : decode cL_law 15 = .ok (.if_icmp .ne 39, 3) := by decide +kernel
theorem dL_law_18 : decode cL_law 18 = .ok (.aload_n 1, 1) := by decide +kernel
theorem dL_law_19 : decode cL_law 19 = .ok (.invokestatic 296, 3) := by decide +kernel
theorem dL_law_22 : decode cL_law 22 = .ok (.sipush (-1001), 3) := by decide +kernel
theorem dL_law_25 : decode cL_law 25 = .ok (.if_icmp .ne 29, 3) := by decide +kernel
theorem dL_law_28 : decode cL_law 28 = .ok (.aload_n 1, 1) := by decide +kernel
theorem dL_law_29 : decode cL_law 29 = .ok (.invokevirtual 298, 3) := by decide +kernel
theorem dL_law_32 : decode cL_law 32 = .ok (.ifCond .ne 22, 3) := by decide +kernel
theorem dL_law_35 : decode cL_law 35 = .ok (.aload_n 1, 1) := by decide +kernel
theorem dL_law_36 : decode cL_law 36 = .ok (.bipush 48, 2) := by decide +kernel
theorem dL_law_38 : decode cL_law 38 = .ok (.invokestatic 183, 3) := by decide +kernel
theorem dL_law_41 : decode cL_law 41 = .ok (.ifCond .ne 13, 3) := by decide +kernel
theorem dL_law_44 : decode cL_law 44 = .ok (.aload_n 1, 1) := by decide +kernel
theorem dL_law_45 : decode cL_law 45 = .ok (.iconst 0, 1) := by decide +kernel
theorem dL_law_46 : decode cL_law 46 = .ok (.invokestatic 205, 3) := by decide +kernel
theorem dL_law_49 : decode cL_law 49 = .ok (.bipush 48, 2) := by decide +kernel
theorem dL_law_51 : decode cL_law 51 = .ok (.if_icmp .eq 5, 3) := by decide +kernel
theorem dL_law_54 : decode cL_law 54 = .ok (.iconst 0, 1) := by decide +kernel
theorem dL_law_55 : decode cL_law 55 = .ok (.ireturn, 1) := by decide +kernel
theorem dL_law_56 : decode cL_law 56 = .ok (.iconst 0, 1) := by decide +kernel
theorem dL_law_57 : decode cL_law 57 = .ok (.istore_n 2, 1) := by decide +kernel
theorem dL_law_58 : decode cL_law 58 = .ok (.iload_n 2, 1) := by decide +kernel
theorem dL_law_59 : decode cL_law 59 = .ok (.bipush 60, 2) := by decide +kernel
theorem dL_law_61 : decode cL_law 61 = .ok (.if_icmp .ge 26, 3) := by decide +kernel
theorem dL_law_64 : decode cL_law 64 = .ok (.aload_n 1, 1) := by decide +kernel
theorem dL_law_65 : decode cL_law 65 = .ok (.bipush 65, 2) := by decide +kernel
theorem dL_law_67 : decode cL_law 67 = .ok (.iload_n 2, 1) := by decide +kernel
theorem dL_law_68 : decode cL_law 68 = .ok (.iadd, 1) := by decide +kernel
theorem dL_law_69 : decode cL_law 69 = .ok (.i2c, 1) := by decide +kernel
theorem dL_law_70 : decode cL_law 70 = .ok (.invokestatic 150, 3) := by decide +kernel
theorem dL_law_73 : decode cL_law 73 = .ok (.iload_n 2, 1) := by decide +kernel
theorem dL_law_74 : decode cL_law 74 = .ok (.iconst 1, 1) := by decide +kernel
theorem dL_law_75 : decode cL_law 75 = .ok (.iadd, 1) := by decide +kernel
theorem dL_law_76 : decode cL_law 76 = .ok (.if_icmp .eq 5, 3) := by decide +kernel
theorem dL_law_79 : decode cL_law 79 = .ok (.iconst 0, 1) := by decide +kernel
theorem dL_law_80 : decode cL_law 80 = .ok (.ireturn, 1) := by decide +kernel
theorem dL_law_81 : decode cL_law 81 = .ok (.iinc 2 1, 3) := by decide +kernel
theorem dL_law_84 : decode cL_law 84 = .ok (.goto (-26), 3) := by decide +kernel
theorem dL_law_87 : decode cL_law 87 = .ok (.aload_n 1, 1) := by decide +kernel
theorem dL_law_88 : decode cL_law 88 = .ok (.bipush 119, 2) := by decide +kernel
theorem dL_law_90 : decode cL_law 90 = .ok (.invokestatic 150, 3) := by decide +kernel
theorem dL_law_93 : decode cL_law 93 = .ok (.sipush (-1001), 3) := by decide +kernel
theorem dL_law_96 : decode cL_law 96 = .ok (.if_icmp .ne 40, 3) := by decide +kernel
theorem dL_law_99 : decode cL_law 99 = .ok (.aload_n 1, 1) := by decide +kernel
theorem dL_law_100 : decode cL_law 100 = .ok (.bipush 16, 2) := by decide +kernel
theorem dL_law_102 : decode cL_law 102 = .ok (.invokestatic 205, 3) := by decide +kernel
theorem dL_law_105 : decode cL_law 105 = .ok (.bipush 60, 2) := by decide +kernel
theorem dL_law_107 : decode cL_law 107 = .ok (.if_icmp .ne 29, 3) := by decide +kernel
theorem dL_law_110 : decode cL_law 110 = .ok (.aload_n 1, 1) := by decide +kernel
theorem dL_law_111 : decode cL_law 111 = .ok (.invokestatic 155, 3) := by decide +kernel
theorem dL_law_114 : decode cL_law 114 = .ok (.sipush (-1001), 3) := by decide +kernel
theorem dL_law_117 : decode cL_law 117 = .ok (.if_icmp .ne 19, 3) := by decide +kernel
theorem dL_law_120 : decode cL_law 120 = .ok (.aload_n 1, 1) := by decide +kernel
theorem dL_law_121 : decode cL_law 121 = .ok (.invokevirtual 288, 3) := by decide +kernel
theorem dL_law_124 : decode cL_law 124 = .ok (.ifCond .ne 12, 3) := by decide +kernel
theorem dL_law_127 : decode cL_law 127 = .ok (.aload_n 1, 1) := by decide +kernel
theorem dL_law_128 : decode cL_law 128 = .ok (.bipush 16, 2) := by decide +kernel
theorem dL_law_130 : decode cL_law 130 = .ok (.invokestatic 205, 3) := by decide +kernel
theorem dL_law_133 : decode cL_law 133 = .ok (.ifCond .eq 5, 3) := by decide +kernel
theorem dL_law_136 : decode cL_law 136 = .ok (.iconst 0, 1) := by decide +kernel
theorem dL_law_137 : decode cL_law 137 = .ok (.ireturn, 1) := by decide +kernel
theorem dL_law_138 : decode cL_law 138 = .ok (.iconst 0, 1) := by decide +kernel
theorem dL_law_139 : decode cL_law 139 = .ok (.istore_n 2, 1) := by decide +kernel
theorem dL_law_140 : decode cL_law 140 = .ok (.iload_n 2, 1) := by decide +kernel
theorem dL_law_141 : decode cL_law 141 = .ok (.bipush 10, 2) := by decide +kernel
theorem dL_law_143 : decode cL_law 143 = .ok (.if_icmp .ge 23, 3) := by decide +kernel
theorem dL_law_146 : decode cL_law 146 = .ok (.aload_n 1, 1) := by decide +kernel
theorem dL_law_147 : decode cL_law 147 = .ok (.bipush 11, 2) := by decide +kernel
theorem dL_law_149 : decode cL_law 149 = .ok (.iload_n 2, 1) := by decide +kernel
theorem dL_law_150 : decode cL_law 150 = .ok (.imul, 1) := by decide +kernel
theorem dL_law_151 : decode cL_law 151 = .ok (.invokestatic 172, 3) := by decide +kernel
theorem dL_law_154 : decode cL_law 154 = .ok (.iload_n 2, 1) := by decide +kernel
theorem dL_law_155 : decode cL_law 155 = .ok (.if_icmp .eq 5, 3) := by decide +kernel
theorem dL_law_158 : decode cL_law 158 = .ok (.iconst 0, 1) := by decide +kernel
theorem dL_law_159 : decode cL_law 159 = .ok (.ireturn, 1) := by decide +kernel
theorem dL_law_160 : decode cL_law 160 = .ok (.iinc 2 1, 3) := by decide +kernel
theorem dL_law_163 : decode cL_law 163 = .ok (.goto (-23), 3) := by decide +kernel
theorem dL_law_166 : decode cL_law 166 = .ok (.iconst 0, 1) := by decide +kernel
theorem dL_law_167 : decode cL_law 167 = .ok (.istore_n 2, 1) := by decide +kernel
theorem dL_law_168 : decode cL_law 168 = .ok (.iload_n 2, 1) := by decide +kernel
theorem dL_law_169 : decode cL_law 169 = .ok (.iconst 4, 1) := by decide +kernel
theorem dL_law_170 : decode cL_law 170 = .ok (.if_icmp .ge 27, 3) := by decide +kernel
theorem dL_law_173 : decode cL_law 173 = .ok (.aload_n 1, 1) := by decide +kernel
theorem dL_law_174 : decode cL_law 174 = .ok (.bipush 99, 2) := by decide +kernel
theorem dL_law_176 : decode cL_law 176 = .ok (.bipush 9, 2) := by decide +kernel
theorem dL_law_178 : decode cL_law 178 = .ok (.iload_n 2, 1) := by decide +kernel
theorem dL_law_179 : decode cL_law 179 = .ok (.iconst 2, 1) := by decide +kernel
theorem dL_law_180 : decode cL_law 180 = .ok (.idiv, 1) := by decide +kernel
theorem dL_law_181 : decode cL_law 181 = .ok (.isub, 1) := by decide +kernel
theorem dL_law_182 : decode cL_law 182 = .ok (.invokestatic 174, 3) := by decide +kernel
theorem dL_law_185 : decode cL_law 185 = .ok (.iload_n 2, 1) := by decide +kernel
theorem dL_law_186 : decode cL_law 186 = .ok (.if_icmp .eq 5, 3) := by decide +kernel
theorem dL_law_189 : decode cL_law 189 = .ok (.iconst 0, 1) := by decide +kernel
theorem dL_law_190 : decode cL_law 190 = .ok (.ireturn, 1) := by decide +kernel
theorem dL_law_191 : decode cL_law 191 = .ok (.iinc 2 1, 3) := by decide +kernel
theorem dL_law_194 : decode cL_law 194 = .ok (.goto (-26), 3) := by decide +kernel
theorem dL_law_197 : decode cL_law 197 = .ok (.iconst 0, 1) := by decide +kernel
theorem dL_law_198 : decode cL_law 198 = .ok (.istore_n 2, 1) := by decide +kernel
theorem dL_law_199 : decode cL_law 199 = .ok (.iload_n 2, 1) := by decide +kernel
theorem dL_law_200 : decode cL_law 200 = .ok (.iconst 3, 1) := by decide +kernel
theorem dL_law_201 : decode cL_law 201 = .ok (.if_icmp .ge 19, 3) := by decide +kernel
theorem dL_law_204 : decode cL_law 204 = .ok (.aload_n 1, 1) := by decide +kernel
theorem dL_law_205 : decode cL_law 205 = .ok (.invokestatic 177, 3) := by decide +kernel
theorem dL_law_208 : decode cL_law 208 = .ok (.iload_n 2, 1) := by decide +kernel
theorem dL_law_209 : decode cL_law 209 = .ok (.if_icmp .eq 5, 3) := by decide +kernel
theorem dL_law_212 : decode cL_law 212 = .ok (.iconst 0, 1) := by decide +kernel
theorem dL_law_213 : decode cL_law 213 = .ok (.ireturn, 1) := by decide +kernel
theorem dL_law_214 : decode cL_law 214 = .ok (.iinc 2 1, 3) := by decide +kernel
theorem dL_law_217 : decode cL_law 217 = .ok (.goto (-18), 3) := by decide +kernel
theorem dL_law_220 : decode cL_law 220 = .ok (.iconst 0, 1) := by decide +kernel
theorem dL_law_221 : decode cL_law 221 = .ok (.istore_n 2, 1) := by decide +kernel
theorem dL_law_222 : decode cL_law 222 = .ok (.iload_n 2, 1) := by decide +kernel
theorem dL_law_223 : decode cL_law 223 = .ok (.bipush 6, 2) := by decide +kernel
theorem dL_law_225 : decode cL_law 225 = .ok (.if_icmp .ge 21, 3) := by decide +kernel
theorem dL_law_228 : decode cL_law 228 = .ok (.aload_n 1, 1) := by decide +kernel
theorem dL_law_229 : decode cL_law 229 = .ok (.bipush 95, 2) := by decide +kernel
theorem dL_law_231 : decode cL_law 231 = .ok (.invokestatic 179, 3) := by decide +kernel
theorem dL_law_234 : decode cL_law 234 = .ok (.iload_n 2, 1) := by decide +kernel
theorem dL_law_235 : decode cL_law 235 = .ok (.if_icmp .eq 5, 3) := by decide +kernel
theorem dL_law_238 : decode cL_law 238 = .ok (.iconst 0, 1) := by decide +kernel
theorem dL_law_239 : decode cL_law 239 = .ok (.ireturn, 1) := by decide +kernel
theorem dL_law_240 : decode cL_law 240 = .ok (.iinc 2 1, 3) := by decide +kernel
theorem dL_law_243 : decode cL_law 243 = .ok (.goto (-21), 3) := by decide +kernel
theorem dL_law_246 : decode cL_law 246 = .ok (.aload_n 1, 1) := by decide +kernel
theorem dL_law_247 : decode cL_law 247 = .ok (.iconst 5, 1) := by decide +kernel
theorem dL_law_248 : decode cL_law 248 = .ok (.invokestatic 172, 3) := by decide +kernel
theorem dL_law_251 : decode cL_law 251 = .ok (.sipush (-1001), 3) := by decide +kernel
theorem dL_law_254 : decode cL_law 254 = .ok (.if_icmp .ne 137, 3) := by decide +kernel
theorem dL_law_257 : decode cL_law 257 = .ok (.aload_n 1, 1) := by decide +kernel
theorem dL_law_258 : decode cL_law 258 = .ok (.iconst 2, 1) := by decide +kernel
theorem dL_law_259 : decode cL_law 259 = .ok (.bipush 10, 2) := by decide +kernel
theorem dL_law_261 : decode cL_law 261 = .ok (.iconst 0, 1) := by decide +kernel
theorem dL_law_262 : decode cL_law 262 = .ok (.invokestatic 282, 3) := by decide +kernel
theorem dL_law_265 : decode cL_law 265 = .ok (.ifCond .eq 126, 3) := by decide +kernel
theorem dL_law_268 : decode cL_law 268 = .ok (.aload_n 1, 1) := by decide +kernel
theorem dL_law_269 : decode cL_law 269 = .ok (.iconst 0, 1) := by decide +kernel
theorem dL_law_270 : decode cL_law 270 = .ok (.iconst 1, 1) := by decide +kernel
theorem dL_law_271 : decode cL_law 271 = .ok (.invokestatic 174, 3) := by decide +kernel
theorem dL_law_274 : decode cL_law 274 = .ok (.sipush (-1001), 3) := by decide +kernel
theorem dL_law_277 : decode cL_law 277 = .ok (.if_icmp .ne 114, 3) := by decide +kernel
theorem dL_law_280 : decode cL_law 280 = .ok (.aload_n 1, 1) := by decide +kernel
theorem dL_law_281 : decode cL_law 281 = .ok (.iconst 2, 1) := by decide +kernel
theorem dL_law_282 : decode cL_law 282 = .ok (.iconst 4, 1) := by decide +kernel
theorem dL_law_283 : decode cL_law 283 = .ok (.iconst 0, 1) := by decide +kernel
theorem dL_law_284 : decode cL_law 284 = .ok (.invokestatic 282, 3) := by decide +kernel
theorem dL_law_287 : decode cL_law 287 = .ok (.ifCond .eq 104, 3) := by decide +kernel
theorem dL_law_290 : decode cL_law 290 = .ok (.aload_n 1, 1) := by decide +kernel
theorem dL_law_291 : decode cL_law 291 = .ok (.invokestatic 177, 3) := by decide +kernel
theorem dL_law_294 : decode cL_law 294 = .ok (.sipush (-1001), 3) := by decide +kernel
theorem dL_law_297 : decode cL_law 297 = .ok (.if_icmp .ne 94, 3) := by decide +kernel
theorem dL_law_300 : decode cL_law 300 = .ok (.aload_n 1, 1) := by decide +kernel
theorem dL_law_301 : decode cL_law 301 = .ok (.iconst 2, 1) := by decide +kernel
theorem dL_law_302 : decode cL_law 302 = .ok (.iconst 3, 1) := by decide +kernel
theorem dL_law_303 : decode cL_law 303 = .ok (.iconst 0, 1) := by decide +kernel
theorem dL_law_304 : decode cL_law 304 = .ok (.invokestatic 282, 3) := by decide +kernel
theorem dL_law_307 : decode cL_law 307 = .ok (.ifCond .eq 84, 3) := by decide +kernel
theorem dL_law_310 : decode cL_law 310 = .ok (.aload_n 1, 1) := by decide +kernel
theorem dL_law_311 : decode cL_law 311 = .ok (.iconst 0, 1) := by decide +kernel
theorem dL_law_312 : decode cL_law 312 = .ok (.invokestatic 179, 3) := by decide +kernel
theorem dL_law_315 : decode cL_law 315 = .ok (.sipush (-1001), 3) := by decide +kernel
theorem dL_law_318 : decode cL_law 318 = .ok (.if_icmp .ne 73, 3) := by decide +kernel
theorem dL_law_321 : decode cL_law 321 = .ok (.aload_n 1, 1) := by decide +kernel
theorem dL_law_322 : decode cL_law 322 = .ok (.iconst 2, 1) := by decide +kernel
theorem dL_law_323 : decode cL_law 323 = .ok (.bipush 6, 2) := by decide +kernel
theorem dL_law_325 : decode cL_law 325 = .ok (.iconst 0, 1) := by decide +kernel
theorem dL_law_326 : decode cL_law 326 = .ok (.invokestatic 282, 3) := by decide +kernel
theorem dL_law_329 : decode cL_law 329 = .ok (.ifCond .eq 62, 3) := by decide +kernel
theorem dL_law_332 : decode cL_law 332 = .ok (.aload_n 1, 1) := by decide +kernel
theorem dL_law_333 : decode cL_law 333 = .ok (.bipush 15, 2) := by decide +kernel
theorem dL_law_335 : decode cL_law 335 = .ok (.invokestatic 205, 3) := by decide +kernel
theorem dL_law_338 : decode cL_law 338 = .ok (.bipush 8, 2) := by decide +kernel
theorem dL_law_340 : decode cL_law 340 = .ok (.if_icmp .ne 51, 3) := by decide +kernel
theorem dL_law_343 : decode cL_law 343 = .ok (.aload_n 1, 1) := by decide +kernel
theorem dL_law_344 : decode cL_law 344 = .ok (.bipush 100, 2) := by decide +kernel
theorem dL_law_346 : decode cL_law 346 = .ok (.invokestatic 247, 3) := by decide +kernel
theorem dL_law_349 : decode cL_law 349 = .ok (.sipush 160, 3) := by decide +kernel
theorem dL_law_352 : decode cL_law 352 = .ok (.if_icmp .ne 39, 3) := by decide +kernel
theorem dL_law_355 : decode cL_law 355 = .ok (.aload_n 1, 1) := by decide +kernel
theorem dL_law_356 : decode cL_law 356 = .ok (.bipush 41, 2) := by decide +kernel
theorem dL_law_358 : decode cL_law 358 = .ok (.invokestatic 247, 3) := by decide +kernel
theorem dL_law_361 : decode cL_law 361 = .ok (.sipush (-1001), 3) := by decide +kernel
theorem dL_law_364 : decode cL_law 364 = .ok (.if_icmp .ne 27, 3) := by decide +kernel
theorem dL_law_367 : decode cL_law 367 = .ok (.aload_n 1, 1) := by decide +kernel
theorem dL_law_368 : decode cL_law 368 = .ok (.iconst 2, 1) := by decide +kernel
theorem dL_law_369 : decode cL_law 369 = .ok (.sipush 200, 3) := by decide +kernel
theorem dL_law_372 : decode cL_law 372 = .ok (.iconst 0, 1) := by decide +kernel
theorem dL_law_373 : decode cL_law 373 = .ok (.invokestatic 282, 3) := by decide +kernel
theorem dL_law_376 : decode cL_law 376 = .ok (.ifCond .eq 15, 3) := by decide +kernel
theorem dL_law_379 : decode cL_law 379 = .ok (.aload_n 1, 1) := by decide +kernel
theorem dL_law_380 : decode cL_law 380 = .ok (.bipush 40, 2) := by decide +kernel
theorem dL_law_382 : decode cL_law 382 = .ok (.invokestatic 247, 3) := by decide +kernel
theorem dL_law_385 : decode cL_law 385 = .ok (.sipush 200, 3) := by decide +kernel
theorem dL_law_388 : decode cL_law 388 = .ok (.if_icmp .eq 5, 3) := by decide +kernel
theorem dL_law_391 : decode cL_law 391 = .ok (.iconst 0, 1) := by decide +kernel
theorem dL_law_392 : decode cL_law 392 = .ok (.ireturn, 1) := by decide +kernel
theorem dL_law_393 : decode cL_law 393 = .ok (.iconst 0, 1) := by decide +kernel
theorem dL_law_394 : decode cL_law 394 = .ok (.istore_n 2, 1) := by decide +kernel
theorem dL_law_395 : decode cL_law 395 = .ok (.iload_n 2, 1) := by decide +kernel
theorem dL_law_396 : decode cL_law 396 = .ok (.iconst 5, 1) := by decide +kernel
theorem dL_law_397 : decode cL_law 397 = .ok (.if_icmp .ge 22, 3) := by decide +kernel
theorem dL_law_400 : decode cL_law 400 = .ok (.aload_n 1, 1) := by decide +kernel
theorem dL_law_401 : decode cL_law 401 = .ok (.iload_n 2, 1) := by decide +kernel
theorem dL_law_402 : decode cL_law 402 = .ok (.invokestatic 241, 3) := by decide +kernel
theorem dL_law_405 : decode cL_law 405 = .ok (.iload_n 2, 1) := by decide +kernel
theorem dL_law_406 : decode cL_law 406 = .ok (.iconst 1, 1) := by decide +kernel
theorem dL_law_407 : decode cL_law 407 = .ok (.iadd, 1) := by decide +kernel
theorem dL_law_408 : decode cL_law 408 = .ok (.if_icmp .eq 5, 3) := by decide +kernel
theorem dL_law_411 : decode cL_law 411 = .ok (.iconst 0, 1) := by decide +kernel
theorem dL_law_412 : decode cL_law 412 = .ok (.ireturn, 1) := by decide +kernel
theorem dL_law_413 : decode cL_law 413 = .ok (.iinc 2 1, 3) := by decide +kernel
theorem dL_law_416 : decode cL_law 416 = .ok (.goto (-21), 3) := by decide +kernel
theorem dL_law_419 : decode cL_law 419 = .ok (.aload_n 1, 1) := by decide +kernel
theorem dL_law_420 : decode cL_law 420 = .ok (.iconst 4, 1) := by decide +kernel
theorem dL_law_421 : decode cL_law 421 = .ok (.invokestatic 241, 3) := by decide +kernel
theorem dL_law_424 : decode cL_law 424 = .ok (.sipush (-1001), 3) := by decide +kernel
theorem dL_law_427 : decode cL_law 427 = .ok (.if_icmp .ne 62, 3) := by decide +kernel
theorem dL_law_430 : decode cL_law 430 = .ok (.aload_n 1, 1) := by decide +kernel
theorem dL_law_431 : decode cL_law 431 = .ok (.bipush 7, 2) := by decide +kernel
theorem dL_law_433 : decode cL_law 433 = .ok (.iconst 4, 1) := by decide +kernel
theorem dL_law_434 : decode cL_law 434 = .ok (.iconst 0, 1) := by decide +kernel
theorem dL_law_435 : decode cL_law 435 = .ok (.invokestatic 282, 3) := by decide +kernel
theorem dL_law_438 : decode cL_law 438 = .ok (.ifCond .eq 51, 3) := by decide +kernel
theorem dL_law_441 : decode cL_law 441 = .ok (.aload_n 1, 1) := by decide +kernel
theorem dL_law_442 : decode cL_law 442 = .ok (.iconst 5, 1) := by decide +kernel
theorem dL_law_443 : decode cL_law 443 = .ok (.invokestatic 243, 3) := by decide +kernel
theorem dL_law_446 : decode cL_law 446 = .ok (.sipush (-1001), 3) := by decide +kernel
theorem dL_law_449 : decode cL_law 449 = .ok (.if_icmp .ne 40, 3) := by decide +kernel
theorem dL_law_452 : decode cL_law 452 = .ok (.aload_n 1, 1) := by decide +kernel
theorem dL_law_453 : decode cL_law 453 = .ok (.bipush 7, 2) := by decide +kernel
theorem dL_law_455 : decode cL_law 455 = .ok (.iconst 5, 1) := by decide +kernel
theorem dL_law_456 : decode cL_law 456 = .ok (.iconst 0, 1) := by decide +kernel
theorem dL_law_457 : decode cL_law 457 = .ok (.invokestatic 282, 3) := by decide +kernel
theorem dL_law_460 : decode cL_law 460 = .ok (.ifCond .eq 29, 3) := by decide +kernel
theorem dL_law_463 : decode cL_law 463 = .ok (.aload_n 1, 1) := by decide +kernel
theorem dL_law_464 : decode cL_law 464 = .ok (.bipush 99, 2) := by decide +kernel
theorem dL_law_466 : decode cL_law 466 = .ok (.invokestatic 232, 3) := by decide +kernel
theorem dL_law_469 : decode cL_law 469 = .ok (.ifCond .ne 20, 3) := by decide +kernel
theorem dL_law_472 : decode cL_law 472 = .ok (.aload_n 1, 1) := by decide +kernel
theorem dL_law_473 : decode cL_law 473 = .ok (.bipush 9, 2) := by decide +kernel
theorem dL_law_475 : decode cL_law 475 = .ok (.invokestatic 209, 3) := by decide +kernel
theorem dL_law_478 : decode cL_law 478 = .ok (.ifCond .ne 11, 3) := by decide +kernel
theorem dL_law_481 : decode cL_law 481 = .ok (.aload_n 1, 1) := by decide +kernel
theorem dL_law_482 : decode cL_law 482 = .ok (.iconst 0, 1) := by decide +kernel
theorem dL_law_483 : decode cL_law 483 = .ok (.invokestatic 209, 3) := by decide +kernel
theorem dL_law_486 : decode cL_law 486 = .ok (.ifCond .eq 5, 3) := by decide +kernel
theorem dL_law_489 : decode cL_law 489 = .ok (.iconst 0, 1) := by decide +kernel
theorem dL_law_490 : decode cL_law 490 = .ok (.ireturn, 1) := by decide +kernel
theorem dL_law_491 : decode cL_law 491 = .ok (.aload_n 1, 1) := by decide +kernel
theorem dL_law_492 : decode cL_law 492 = .ok (.bipush 8, 2) := by decide +kernel
theorem dL_law_494 : decode cL_law 494 = .ok (.invokestatic 181, 3) := by decide +kernel
theorem dL_law_497 : decode cL_law 497 = .ok (.ifCond .ne 201, 3) := by decide +kernel
theorem dL_law_500 : decode cL_law 500 = .ok (.aload_n 1, 1) := by decide +kernel
theorem dL_law_501 : decode cL_law 501 = .ok (.bipush 12, 2) := by decide +kernel
theorem dL_law_503 : decode cL_law 503 = .ok (.invokestatic 183, 3) := by decide +kernel
theorem dL_law_506 : decode cL_law 506 = .ok (.ifCond .ne 192, 3) := by decide +kernel
theorem dL_law_509 : decode cL_law 509 = .ok (.aload_n 1, 1) := by decide +kernel
theorem dL_law_510 : decode cL_law 510 = .ok (.iconst 2, 1) := by decide +kernel
theorem dL_law_511 : decode cL_law 511 = .ok (.invokestatic 205, 3) := by decide +kernel
theorem dL_law_514 : decode cL_law 514 = .ok (.bipush 16, 2) := by decide +kernel
theorem dL_law_516 : decode cL_law 516 = .ok (.if_icmp .ne 182, 3) := by decide +kernel
theorem dL_law_519 : decode cL_law 519 = .ok (.aload_n 1, 1) := by decide +kernel
theorem dL_law_520 : decode cL_law 520 = .ok (.iconst 5, 1) := by decide +kernel
theorem dL_law_521 : decode cL_law 521 = .ok (.iconst 0, 1) := by decide +kernel
theorem dL_law_522 : decode cL_law 522 = .ok (.invokestatic 224, 3) := by decide +kernel
theorem dL_law_525 : decode cL_law 525 = .ok (.bipush 74, 2) := by decide +kernel
theorem dL_law_527 : decode cL_law 527 = .ok (.if_icmp .ne 171, 3) := by decide +kernel
theorem dL_law_530 : decode cL_law 530 = .ok (.aload_n 1, 1) := by decide +kernel
theorem dL_law_531 : decode cL_law 531 = .ok (.iconst 4, 1) := by decide +kernel
theorem dL_law_532 : decode cL_law 532 = .ok (.iconst 0, 1) := by decide +kernel
theorem dL_law_533 : decode cL_law 533 = .ok (.invokestatic 224, 3) := by decide +kernel
theorem dL_law_536 : decode cL_law 536 = .ok (.bipush 95, 2) := by decide +kernel
theorem dL_law_538 : decode cL_law 538 = .ok (.if_icmp .ne 160, 3) := by decide +kernel
theorem dL_law_541 : decode cL_law 541 = .ok (.aload_n 1, 1) := by decide +kernel
theorem dL_law_542 : decode cL_law 542 = .ok (.iconst 0, 1) := by decide +kernel
theorem dL_law_543 : decode cL_law 543 = .ok (.iconst 1, 1) := by decide +kernel
theorem dL_law_544 : decode cL_law 544 = .ok (.invokestatic 224, 3) := by decide +kernel
theorem dL_law_547 : decode cL_law 547 = .ok (.bipush 18, 2) := by decide +kernel
theorem dL_law_549 : decode cL_law 549 = .ok (.if_icmp .ne 149, 3) := by decide +kernel
theorem dL_law_552 : decode cL_law 552 = .ok (.aload_n 1, 1) := by decide +kernel
theorem dL_law_553 : decode cL_law 553 = .ok (.iconst 0, 1) := by decide +kernel
theorem dL_law_554 : decode cL_law 554 = .ok (.invokestatic 226, 3) := by decide +kernel
theorem dL_law_557 : decode cL_law 557 = .ok (.iconst 1, 1) := by decide +kernel
theorem dL_law_558 : decode cL_law 558 = .ok (.if_icmp .ne 140, 3) := by decide +kernel
theorem dL_law_561 : decode cL_law 561 = .ok (.aload_n 1, 1) := by decide +kernel
theorem dL_law_562 : decode cL_law 562 = .ok (.bipush 9, 2) := by decide +kernel
theorem dL_law_564 : decode cL_law 564 = .ok (.iconst 0, 1) := by decide +kernel
theorem dL_law_565 : decode cL_law 565 = .ok (.invokestatic 217, 3) := by decide +kernel
theorem dL_law_568 : decode cL_law 568 = .ok (.ifCond .ne 130, 3) := by decide +kernel
theorem dL_law_571 : decode cL_law 571 = .ok (.aload_n 1, 1) := by decide +kernel
theorem dL_law_572 : decode cL_law 572 = .ok (.iconst 0, 1) := by decide +kernel
theorem dL_law_573 : decode cL_law 573 = .ok (.iconst 3, 1) := by decide +kernel
theorem dL_law_574 : decode cL_law 574 = .ok (.invokestatic 217, 3) := by decide +kernel
theorem dL_law_577 : decode cL_law 577 = .ok (.iconst 1, 1) := by decide +kernel
theorem dL_law_578 : decode cL_law 578 = .ok (.if_icmp .ne 120, 3) := by decide +kernel
theorem dL_law_581 : decode cL_law 581 = .ok (.aload_n 1, 1) := by decide +kernel
theorem dL_law_582 : decode cL_law 582 = .ok (.iconst 0, 1) := by decide +kernel
theorem dL_law_583 : decode cL_law 583 = .ok (.iconst 0, 1) := by decide +kernel
theorem dL_law_584 : decode cL_law 584 = .ok (.invokestatic 213, 3) := by decide +kernel
theorem dL_law_587 : decode cL_law 587 = .ok (.bipush 31, 2) := by decide +kernel
theorem dL_law_589 : decode cL_law 589 = .ok (.if_icmp .ne 109, 3) := by decide +kernel
theorem dL_law_592 : decode cL_law 592 = .ok (.aload_n 1, 1) := by decide +kernel
theorem dL_law_593 : decode cL_law 593 = .ok (.bipush 8, 2) := by decide +kernel
theorem dL_law_595 : decode cL_law 595 = .ok (.iconst 0, 1) := by decide +kernel
theorem dL_law_596 : decode cL_law 596 = .ok (.invokestatic 213, 3) := by decide +kernel
theorem dL_law_599 : decode cL_law 599 = .ok (.bipush 91, 2) := by decide +kernel
theorem dL_law_601 : decode cL_law 601 = .ok (.if_icmp .ne 97, 3) := by decide +kernel
theorem dL_law_604 : decode cL_law 604 = .ok (.aload_n 1, 1) := by decide +kernel
theorem dL_law_605 : decode cL_law 605 = .ok (.iconst 0, 1) := by decide +kernel
theorem dL_law_606 : decode cL_law 606 = .ok (.invokestatic 245, 3) := by decide +kernel
theorem dL_law_609 : decode cL_law 609 = .ok (.sipush 191, 3) := by decide +kernel
theorem dL_law_612 : decode cL_law 612 = .ok (.if_icmp .ne 86, 3) := by decide +kernel
theorem dL_law_615 : decode cL_law 615 = .ok (.aload_n 1, 1) := by decide +kernel
theorem dL_law_616 : decode cL_law 616 = .ok (.bipush 12, 2) := by decide +kernel
theorem dL_law_618 : decode cL_law 618 = .ok (.invokestatic 205, 3) := by decide +kernel
theorem dL_law_621 : decode cL_law 621 = .ok (.bipush 9, 2) := by decide +kernel
theorem dL_law_623 : decode cL_law 623 = .ok (.if_icmp .ne 75, 3) := by decide +kernel
theorem dL_law_626 : decode cL_law 626 = .ok (.aload_n 1, 1) := by decide +kernel
theorem dL_law_627 : decode cL_law 627 = .ok (.iconst 1, 1) := by decide +kernel
theorem dL_law_628 : decode cL_law 628 = .ok (.invokestatic 183, 3) := by decide +kernel
theorem dL_law_631 : decode cL_law 631 = .ok (.iconst 5, 1) := by decide +kernel
theorem dL_law_632 : decode cL_law 632 = .ok (.if_icmp .ne 66, 3) := by decide +kernel
theorem dL_law_635 : decode cL_law 635 = .ok (.aload_n 1, 1) := by decide +kernel
theorem dL_law_636 : decode cL_law 636 = .ok (.bipush 10, 2) := by decide +kernel
theorem dL_law_638 : decode cL_law 638 = .ok (.invokestatic 205, 3) := by decide +kernel
theorem dL_law_641 : decode cL_law 641 = .ok (.iconst 5, 1) := by decide +kernel
theorem dL_law_642 : decode cL_law 642 = .ok (.if_icmp .ne 56, 3) := by decide +kernel
theorem dL_law_645 : decode cL_law 645 = .ok (.aload_n 1, 1) := by decide +kernel
theorem dL_law_646 : decode cL_law 646 = .ok (.bipush 9, 2) := by decide +kernel
theorem dL_law_648 : decode cL_law 648 = .ok (.invokestatic 205, 3) := by decide +kernel
theorem dL_law_651 : decode cL_law 651 = .ok (.iconst 5, 1) := by decide +kernel
theorem dL_law_652 : decode cL_law 652 = .ok (.if_icmp .ne 46, 3) := by decide +kernel
theorem dL_law_655 : decode cL_law 655 = .ok (.aload_n 1, 1) := by decide +kernel
theorem dL_law_656 : decode cL_law 656 = .ok (.iconst 1, 1) := by decide +kernel
theorem dL_law_657 : decode cL_law 657 = .ok (.invokestatic 243, 3) := by decide +kernel
theorem dL_law_660 : decode cL_law 660 = .ok (.iconst 4, 1) := by decide +kernel
theorem dL_law_661 : decode cL_law 661 = .ok (.if_icmp .ne 37, 3) := by decide +kernel
theorem dL_law_664 : decode cL_law 664 = .ok (.aload_n 1, 1) := by decide +kernel
theorem dL_law_665 : decode cL_law 665 = .ok (.iconst 1, 1) := by decide +kernel
theorem dL_law_666 : decode cL_law 666 = .ok (.invokestatic 241, 3) := by decide +kernel
theorem dL_law_669 : decode cL_law 669 = .ok (.sipush (-1001), 3) := by decide +kernel
theorem dL_law_672 : decode cL_law 672 = .ok (.if_icmp .ne 26, 3) := by decide +kernel
theorem dL_law_675 : decode cL_law 675 = .ok (.aload_n 1, 1) := by decide +kernel
theorem dL_law_676 : decode cL_law 676 = .ok (.bipush 8, 2) := by decide +kernel
theorem dL_law_678 : decode cL_law 678 = .ok (.bipush 95, 2) := by decide +kernel
theorem dL_law_680 : decode cL_law 680 = .ok (.iconst 0, 1) := by decide +kernel
theorem dL_law_681 : decode cL_law 681 = .ok (.invokestatic 282, 3) := by decide +kernel
theorem dL_law_684 : decode cL_law 684 = .ok (.ifCond .eq 14, 3) := by decide +kernel
theorem dL_law_687 : decode cL_law 687 = .ok (.aload_n 1, 1) := by decide +kernel
theorem dL_law_688 : decode cL_law 688 = .ok (.iconst 5, 1) := by decide +kernel
theorem dL_law_689 : decode cL_law 689 = .ok (.iconst 0, 1) := by decide +kernel
theorem dL_law_690 : decode cL_law 690 = .ok (.invokestatic 224, 3) := by decide +kernel
theorem dL_law_693 : decode cL_law 693 = .ok (.bipush 74, 2) := by decide +kernel
theorem dL_law_695 : decode cL_law 695 = .ok (.if_icmp .eq 5, 3) := by decide +kernel
theorem dL_law_698 : decode cL_law 698 = .ok (.iconst 0, 1) := by decide +kernel
theorem dL_law_699 : decode cL_law 699 = .ok (.ireturn, 1) := by decide +kernel
theorem dL_law_700 : decode cL_law 700 = .ok (.aload_n 1, 1) := by decide +kernel
theorem dL_law_701 : decode cL_law 701 = .ok (.bipush 95, 2) := by decide +kernel
theorem dL_law_703 : decode cL_law 703 = .ok (.invokestatic 239, 3) := by decide +kernel
theorem dL_law_706 : decode cL_law 706 = .ok (.iconst 5, 1) := by decide +kernel
theorem dL_law_707 : decode cL_law 707 = .ok (.if_icmp .ne 73, 3) := by decide +kernel
theorem dL_law_710 : decode cL_law 710 = .ok (.aload_n 1, 1) := by decide +kernel
theorem dL_law_711 : decode cL_law 711 = .ok (.iconst 0, 1) := by decide +kernel
theorem dL_law_712 : decode cL_law 712 = .ok (.iconst 0, 1) := by decide +kernel
theorem dL_law_713 : decode cL_law 713 = .ok (.iconst 1, 1) := by decide +kernel
theorem dL_law_714 : decode cL_law 714 = .ok (.invokestatic 234, 3) := by decide +kernel
theorem dL_law_717 : decode cL_law 717 = .ok (.sipush (-1001), 3) := by decide +kernel
theorem dL_law_720 : decode cL_law 720 = .ok (.if_icmp .ne 60, 3) := by decide +kernel
theorem dL_law_723 : decode cL_law 723 = .ok (.aload_n 1, 1) := by decide +kernel
theorem dL_law_724 : decode cL_law 724 = .ok (.iconst 0, 1) := by decide +kernel
theorem dL_law_725 : decode cL_law 725 = .ok (.invokestatic 158, 3) := by decide +kernel
theorem dL_law_728 : decode cL_law 728 = .ok (.iconst 5, 1) := by decide +kernel
theorem dL_law_729 : decode cL_law 729 = .ok (.if_icmp .ne 51, 3) := by decide +kernel
theorem dL_law_732 : decode cL_law 732 = .ok (.aload_n 1, 1) := by decide +kernel
theorem dL_law_733 : decode cL_law 733 = .ok (.invokestatic 294, 3) := by decide +kernel
theorem dL_law_736 : decode cL_law 736 = .ok (.bipush 7, 2) := by decide +kernel
theorem dL_law_738 : decode cL_law 738 = .ok (.if_icmp .ne 42, 3) := by decide +kernel
theorem dL_law_741 : decode cL_law 741 = .ok (.aload_n 1, 1) := by decide +kernel
theorem dL_law_742 : decode cL_law 742 = .ok (.bipush 9, 2) := by decide +kernel
theorem dL_law_744 : decode cL_law 744 = .ok (.invokestatic 205, 3) := by decide +kernel
theorem dL_law_747 : decode cL_law 747 = .ok (.iconst 4, 1) := by decide +kernel
theorem dL_law_748 : decode cL_law 748 = .ok (.if_icmp .ne 32, 3) := by decide +kernel
theorem dL_law_751 : decode cL_law 751 = .ok (.aload_n 1, 1) := by decide +kernel
theorem dL_law_752 : decode cL_law 752 = .ok (.invokestatic 294, 3) := by decide +kernel
theorem dL_law_755 : decode cL_law 755 = .ok (.bipush 6, 2) := by decide +kernel
theorem dL_law_757 : decode cL_law 757 = .ok (.if_icmp .ne 23, 3) := by decide +kernel
theorem dL_law_760 : decode cL_law 760 = .ok (.aload_n 1, 1) := by decide +kernel
theorem dL_law_761 : decode cL_law 761 = .ok (.bipush 9, 2) := by decide +kernel
theorem dL_law_763 : decode cL_law 763 = .ok (.invokestatic 205, 3) := by decide +kernel
theorem dL_law_766 : decode cL_law 766 = .ok (.iconst 5, 1) := by decide +kernel
theorem dL_law_767 : decode cL_law 767 = .ok (.if_icmp .ne 13, 3) := by decide +kernel
theorem dL_law_770 : decode cL_law 770 = .ok (.aload_n 1, 1) := by decide +kernel
theorem dL_law_771 : decode cL_law 771 = .ok (.bipush 10, 2) := by decide +kernel
theorem dL_law_773 : decode cL_law 773 = .ok (.invokestatic 205, 3) := by decide +kernel
theorem dL_law_776 : decode cL_law 776 = .ok (.iconst 5, 1) := by decide +kernel
theorem dL_law_777 : decode cL_law 777 = .ok (.if_icmp .eq 5, 3) := by decide +kernel
theorem dL_law_780 : decode cL_law 780 = .ok (.iconst 0, 1) := by decide +kernel
theorem dL_law_781 : decode cL_law 781 = .ok (.ireturn, 1) := by decide +kernel
theorem dL_law_782 : decode cL_law 782 = .ok (.aload_n 1, 1) := by decide +kernel
theorem dL_law_783 : decode cL_law 783 = .ok (.invokestatic 296, 3) := by decide +kernel
theorem dL_law_786 : decode cL_law 786 = .ok (.ifCond .ne 32, 3) := by decide +kernel
theorem dL_law_789 : decode cL_law 789 = .ok (.aload_n 1, 1) := by decide +kernel
theorem dL_law_790 : decode cL_law 790 = .ok (.iconst 4, 1) := by decide +kernel
theorem dL_law_791 : decode cL_law 791 = .ok (.invokestatic 205, 3) := by decide +kernel
theorem dL_law_794 : decode cL_law 794 = .ok (.ifCond .ne 24, 3) := by decide +kernel
theorem dL_law_797 : decode cL_law 797 = .ok (.aload_n 1, 1) := by decide +kernel
theorem dL_law_798 : decode cL_law 798 = .ok (.bipush 11, 2) := by decide +kernel
theorem dL_law_800 : decode cL_law 800 = .ok (.invokestatic 205, 3) := by decide +kernel
theorem dL_law_803 : decode cL_law 803 = .ok (.bipush 60, 2) := by decide +kernel
theorem dL_law_805 : decode cL_law 805 = .ok (.if_icmp .ne 13, 3) := by decide +kernel
theorem dL_law_808 : decode cL_law 808 = .ok (.aload_n 1, 1) := by decide +kernel
theorem dL_law_809 : decode cL_law 809 = .ok (.invokestatic 294, 3) := by decide +kernel
theorem dL_law_812 : decode cL_law 812 = .ok (.sipush (-1001), 3) := by decide +kernel
theorem dL_law_815 : decode cL_law 815 = .ok (.if_icmp .eq 5, 3) := by decide +kernel
theorem dL_law_818 : decode cL_law 818 = .ok (.iconst 0, 1) := by decide +kernel
theorem dL_law_819 : decode cL_law 819 = .ok (.ireturn, 1) := by decide +kernel
theorem dL_law_820 : decode cL_law 820 = .ok (.new 8, 3) := by decide +kernel
theorem dL_law_823 : decode cL_law 823 = .ok (.dup, 1) := by decide +kernel
theorem dL_law_824 : decode cL_law 824 = .ok (.invokespecial 293, 3) := by decide +kernel
theorem dL_law_827 : decode cL_law 827 = .ok (.astore_n 2, 1) := by decide +kernel
theorem dL_law_828 : decode cL_law 828 = .ok (.aload_n 2, 1) := by decide +kernel
theorem dL_law_829 : decode cL_law 829 = .ok (.aload_n 0, 1) := by decide +kernel
theorem dL_law_830 : decode cL_law 830 = .ok (.invokestatic 301, 3) := by decide +kernel
theorem dL_law_833 : decode cL_law 833 = .ok (.ifCond .ne 5, 3) := by decide +kernel
theorem dL_law_836 : decode cL_law 836 = .ok (.iconst 0, 1) := by decide +kernel
theorem dL_law_837 : decode cL_law 837 = .ok (.ireturn, 1) := by decide +kernel
theorem dL_law_838 : decode cL_law 838 = .ok (.iconst 0, 1) := by decide +kernel
theorem dL_law_839 : decode cL_law 839 = .ok (.istore_n 3, 1) := by decide +kernel
theorem dL_law_840 : decode cL_law 840 = .ok (.iload_n 3, 1) := by decide +kernel
theorem dL_law_841 : decode cL_law 841 = .ok (.bipush 6, 2) := by decide +kernel
theorem dL_law_843 : decode cL_law 843 = .ok (.if_icmp .ge 61, 3) := by decide +kernel
theorem dL_law_846 : decode cL_law 846 = .ok (.aload_n 2, 1) := by decide +kernel
theorem dL_law_847 : decode cL_law 847 = .ok (.iload_n 3, 1) := by decide +kernel
theorem dL_law_848 : decode cL_law 848 = .ok (.aload_n 0, 1) := by decide +kernel
theorem dL_law_849 : decode cL_law 849 = .ok (.bipush 24, 2) := by decide +kernel
theorem dL_law_851 : decode cL_law 851 = .ok (.iload_n 3, 1) := by decide +kernel
theorem dL_law_852 : decode cL_law 852 = .ok (.iadd, 1) := by decide +kernel
theorem dL_law_853 : decode cL_law 853 = .ok (.invokestatic 165, 3) := by decide +kernel
theorem dL_law_856 : decode cL_law 856 = .ok (.iconst 3, 1) := by decide +kernel
theorem dL_law_857 : decode cL_law 857 = .ok (.invokestatic 169, 3) := by decide +kernel
theorem dL_law_860 : decode cL_law 860 = .ok (.aload_n 0, 1) := by decide +kernel
theorem dL_law_861 : decode cL_law 861 = .ok (.bipush 24, 2) := by decide +kernel
theorem dL_law_863 : decode cL_law 863 = .ok (.iload_n 3, 1) := by decide +kernel
theorem dL_law_864 : decode cL_law 864 = .ok (.iadd, 1) := by decide +kernel
theorem dL_law_865 : decode cL_law 865 = .ok (.invokestatic 165, 3) := by decide +kernel
theorem dL_law_868 : decode cL_law 868 = .ok (.iconst 2, 1) := by decide +kernel
theorem dL_law_869 : decode cL_law 869 = .ok (.ishr, 1) := by decide +kernel
theorem dL_law_870 : decode cL_law 870 = .ok (.iconst 2, 1) := by decide +kernel
theorem dL_law_871 : decode cL_law 871 = .ok (.invokestatic 169, 3) := by decide +kernel
theorem dL_law_874 : decode cL_law 874 = .ok (.invokestatic 234, 3) := by decide +kernel
theorem dL_law_877 : decode cL_law 877 = .ok (.istore 4, 2) := by decide +kernel
theorem dL_law_879 : decode cL_law 879 = .ok (.iload 4, 2) := by decide +kernel
theorem dL_law_881 : decode cL_law 881 = .ok (.sipush (-1001), 3) := by decide +kernel
theorem dL_law_884 : decode cL_law 884 = .ok (.if_icmp .ne 14, 3) := by decide +kernel
theorem dL_law_887 : decode cL_law 887 = .ok (.aload_n 2, 1) := by decide +kernel
theorem dL_law_888 : decode cL_law 888 = .ok (.iconst 0, 1) := by decide +kernel
theorem dL_law_889 : decode cL_law 889 = .ok (.invokestatic 158, 3) := by decide +kernel
theorem dL_law_892 : decode cL_law 892 = .ok (.iconst 5, 1) := by decide +kernel
theorem dL_law_893 : decode cL_law 893 = .ok (.if_icmp .eq 5, 3) := by decide +kernel
theorem dL_law_896 : decode cL_law 896 = .ok (.iconst 0, 1) := by decide +kernel
theorem dL_law_897 : decode cL_law 897 = .ok (.ireturn, 1) := by decide +kernel
theorem dL_law_898 : decode cL_law 898 = .ok (.iinc 3 1, 3) := by decide +kernel
theorem dL_law_901 : decode cL_law 901 = .ok (.goto (-61), 3) := by decide +kernel
theorem dL_law_904 : decode cL_law 904 = .ok (.aload_n 2, 1) := by decide +kernel
theorem dL_law_905 : decode cL_law 905 = .ok (.invokestatic 278, 3) := by decide +kernel
theorem dL_law_908 : decode cL_law 908 = .ok (.lstore_n 3, 1) := by decide +kernel
theorem dL_law_909 : decode cL_law 909 = .ok (.aload_n 2, 1) := by decide +kernel
theorem dL_law_910 : decode cL_law 910 = .ok (.invokestatic 278, 3) := by decide +kernel
theorem dL_law_913 : decode cL_law 913 = .ok (.lload_n 3, 1) := by decide +kernel
theorem dL_law_914 : decode cL_law 914 = .ok (.lcmp, 1) := by decide +kernel
theorem dL_law_915 : decode cL_law 915 = .ok (.ifCond .ne 10, 3) := by decide +kernel
theorem dL_law_918 : decode cL_law 918 = .ok (.aload_n 2, 1) := by decide +kernel
theorem dL_law_919 : decode cL_law 919 = .ok (.invokestatic 305, 3) := by decide +kernel
theorem dL_law_922 : decode cL_law 922 = .ok (.ifCond .ne 5, 3) := by decide +kernel
theorem dL_law_925 : decode cL_law 925 = .ok (.iconst 0, 1) := by decide +kernel
theorem dL_law_926 : decode cL_law 926 = .ok (.ireturn, 1) := by decide +kernel
theorem dL_law_927 : decode cL_law 927 = .ok (.aload_n 2, 1) := by decide +kernel
theorem dL_law_928 : decode cL_law 928 = .ok (.invokevirtual 298, 3) := by decide +kernel
theorem dL_law_931 : decode cL_law 931 = .ok (.istore 5, 2) := by decide +kernel
theorem dL_law_933 : decode cL_law 933 = .ok (.iload 5, 2) := by decide +kernel
theorem dL_law_935 : decode cL_law 935 = .ok (.aload_n 2, 1) := by decide +kernel
theorem dL_law_936 : decode cL_law 936 = .ok (.iconst 0, 1) := by decide +kernel
theorem dL_law_937 : decode cL_law 937 = .ok (.invokestatic 205, 3) := by decide +kernel
theorem dL_law_940 : decode cL_law 940 = .ok (.if_icmp .ne 12, 3) := by decide +kernel
theorem dL_law_943 : decode cL_law 943 = .ok (.aload_n 2, 1) := by decide +kernel
theorem dL_law_944 : decode cL_law 944 = .ok (.invokestatic 278, 3) := by decide +kernel
theorem dL_law_947 : decode cL_law 947 = .ok (.lload_n 3, 1) := by decide +kernel
theorem dL_law_948 : decode cL_law 948 = .ok (.lcmp, 1) := by decide +kernel
theorem dL_law_949 : decode cL_law 949 = .ok (.ifCond .eq 5, 3) := by decide +kernel
theorem dL_law_952 : decode cL_law 952 = .ok (.iconst 0, 1) := by decide +kernel
theorem dL_law_953 : decode cL_law 953 = .ok (.ireturn, 1) := by decide +kernel
theorem dL_law_954 : decode cL_law 954 = .ok (.bipush 13, 2) := by decide +kernel
theorem dL_law_956 : decode cL_law 956 = .ok (.newarray .long, 2) := by decide +kernel
theorem dL_law_958 : decode cL_law 958 = .ok (.astore 6, 2) := by decide +kernel
theorem dL_law_960 : decode cL_law 960 = .ok (.iconst 0, 1) := by decide +kernel
theorem dL_law_961 : decode cL_law 961 = .ok (.istore 7, 2) := by decide +kernel
theorem dL_law_963 : decode cL_law 963 = .ok (.iconst 0, 1) := by decide +kernel
theorem dL_law_964 : decode cL_law 964 = .ok (.istore 8, 2) := by decide +kernel
theorem dL_law_966 : decode cL_law 966 = .ok (.iload 8, 2) := by decide +kernel
theorem dL_law_968 : decode cL_law 968 = .ok (.bipush 12, 2) := by decide +kernel
theorem dL_law_970 : decode cL_law 970 = .ok (.if_icmp .ge 63, 3) := by decide +kernel
theorem dL_law_973 : decode cL_law 973 = .ok (.aload_n 2, 1) := by decide +kernel
theorem dL_law_974 : decode cL_law 974 = .ok (.invokestatic 278, 3) := by decide +kernel
theorem dL_law_977 : decode cL_law 977 = .ok (.lstore 9, 2) := by decide +kernel
theorem dL_law_979 : decode cL_law 979 = .ok (.aload_n 2, 1) := by decide +kernel
theorem dL_law_980 : decode cL_law 980 = .ok (.aload_n 0, 1) := by decide +kernel
theorem dL_law_981 : decode cL_law 981 = .ok (.bipush 20, 2) := by decide +kernel
theorem dL_law_983 : decode cL_law 983 = .ok (.iload 8, 2) := by decide +kernel
theorem dL_law_985 : decode cL_law 985 = .ok (.iadd, 1) := by decide +kernel
theorem dL_law_986 : decode cL_law 986 = .ok (.invokestatic 165, 3) := by decide +kernel
theorem dL_law_989 : decode cL_law 989 = .ok (.iload 8, 2) := by decide +kernel
theorem dL_law_991 : decode cL_law 991 = .ok (.sipush 977, 3) := by decide +kernel
theorem dL_law_994 : decode cL_law 994 = .ok (.imul, 1) := by decide +kernel
theorem dL_law_995 : decode cL_law 995 = .ok (.ixor, 1) := by decide +kernel
theorem dL_law_996 : decode cL_law 996 = .ok (.invokestatic 309, 3) := by decide +kernel
theorem dL_law_999 : decode cL_law 999 = .ok (.ifCond .eq 16, 3) := by decide +kernel
theorem dL_law_1002 : decode cL_law 1002 = .ok (.aload 6, 2) := by decide +kernel
theorem dL_law_1004 : decode cL_law 1004 = .ok (.iload 7, 2) := by decide +kernel
theorem dL_law_1006 : decode cL_law 1006 = .ok (.iinc 7 1, 3) := by decide +kernel
theorem dL_law_1009 : decode cL_law 1009 = .ok (.lload 9, 2) := by decide +kernel
theorem dL_law_1011 : decode cL_law 1011 = .ok (.lastore, 1) := by decide +kernel
theorem dL_law_1012 : decode cL_law 1012 = .ok (.goto 15, 3) := by decide +kernel
theorem dL_law_1015 : decode cL_law 1015 = .ok (.aload_n 2, 1) := by decide +kernel
theorem dL_law_1016 : decode cL_law 1016 = .ok (.invokestatic 278, 3) := by decide +kernel
theorem dL_law_1019 : decode cL_law 1019 = .ok (.lload 9, 2) := by decide +kernel
theorem dL_law_1021 : decode cL_law 1021 = .ok (.lcmp, 1) := by decide +kernel
theorem dL_law_1022 : decode cL_law 1022 = .ok (.ifCond .eq 5, 3) := by decide +kernel
theorem dL_law_1025 : decode cL_law 1025 = .ok (.iconst 0, 1) := by decide +kernel
theorem dL_law_1026 : decode cL_law 1026 = .ok (.ireturn, 1) := by decide +kernel
theorem dL_law_1027 : decode cL_law 1027 = .ok (.iinc 8 1, 3) := by decide +kernel
theorem dL_law_1030 : decode cL_law 1030 = .ok (.goto (-64), 3) := by decide +kernel
theorem dL_law_1033 : decode cL_law 1033 = .ok (.bipush 8, 2) := by decide +kernel
theorem dL_law_1035 : decode cL_law 1035 = .ok (.iload 7, 2) := by decide +kernel
theorem dL_law_1037 : decode cL_law 1037 = .ok (.invokestatic 313, 3) := by decide +kernel
theorem dL_law_1040 : decode cL_law 1040 = .ok (.istore 8, 2) := by decide +kernel
theorem dL_law_1042 : decode cL_law 1042 = .ok (.iconst 1, 1) := by decide +kernel
theorem dL_law_1043 : decode cL_law 1043 = .ok (.istore 9, 2) := by decide +kernel
theorem dL_law_1045 : decode cL_law 1045 = .ok (.iload 9, 2) := by decide +kernel
theorem dL_law_1047 : decode cL_law 1047 = .ok (.iload 8, 2) := by decide +kernel
theorem dL_law_1049 : decode cL_law 1049 = .ok (.if_icmp .gt 53, 3) := by decide +kernel
theorem dL_law_1052 : decode cL_law 1052 = .ok (.aload_n 2, 1) := by decide +kernel
theorem dL_law_1053 : decode cL_law 1053 = .ok (.invokestatic 294, 3) := by decide +kernel
theorem dL_law_1056 : decode cL_law 1056 = .ok (.istore 10, 2) := by decide +kernel
theorem dL_law_1058 : decode cL_law 1058 = .ok (.iload 10, 2) := by decide +kernel
theorem dL_law_1060 : decode cL_law 1060 = .ok (.iload 8, 2) := by decide +kernel
theorem dL_law_1062 : decode cL_law 1062 = .ok (.iload 9, 2) := by decide +kernel
theorem dL_law_1064 : decode cL_law 1064 = .ok (.isub, 1) := by decide +kernel
theorem dL_law_1065 : decode cL_law 1065 = .ok (.if_icmp .lt 29, 3) := by decide +kernel
theorem dL_law_1068 : decode cL_law 1068 = .ok (.iload 10, 2) := by decide +kernel
theorem dL_law_1070 : decode cL_law 1070 = .ok (.bipush 8, 2) := by decide +kernel
theorem dL_law_1072 : decode cL_law 1072 = .ok (.iload 9, 2) := by decide +kernel
theorem dL_law_1074 : decode cL_law 1074 = .ok (.isub, 1) := by decide +kernel
theorem dL_law_1075 : decode cL_law 1075 = .ok (.if_icmp .gt 19, 3) := by decide +kernel
theorem dL_law_1078 : decode cL_law 1078 = .ok (.aload_n 2, 1) := by decide +kernel
theorem dL_law_1079 : decode cL_law 1079 = .ok (.invokestatic 278, 3) := by decide +kernel
theorem dL_law_1082 : decode cL_law 1082 = .ok (.aload 6, 2) := by decide +kernel
theorem dL_law_1084 : decode cL_law 1084 = .ok (.iload 7, 2) := by decide +kernel
theorem dL_law_1086 : decode cL_law 1086 = .ok (.iload 9, 2) := by decide +kernel
theorem dL_law_1088 : decode cL_law 1088 = .ok (.isub, 1) := by decide +kernel
theorem dL_law_1089 : decode cL_law 1089 = .ok (.laload, 1) := by decide +kernel
theorem dL_law_1090 : decode cL_law 1090 = .ok (.lcmp, 1) := by decide +kernel
theorem dL_law_1091 : decode cL_law 1091 = .ok (.ifCond .eq 5, 3) := by decide +kernel
theorem dL_law_1094 : decode cL_law 1094 = .ok (.iconst 0, 1) := by decide +kernel
theorem dL_law_1095 : decode cL_law 1095 = .ok (.ireturn, 1) := by decide +kernel
theorem dL_law_1096 : decode cL_law 1096 = .ok (.iinc 9 1, 3) := by decide +kernel
theorem dL_law_1099 : decode cL_law 1099 = .ok (.goto (-54), 3) := by decide +kernel
theorem dL_law_1102 : decode cL_law 1102 = .ok (.aload_n 2, 1) := by decide +kernel
theorem dL_law_1103 : decode cL_law 1103 = .ok (.invokestatic 296, 3) := by decide +kernel
theorem dL_law_1106 : decode cL_law 1106 = .ok (.iload 5, 2) := by decide +kernel
theorem dL_law_1108 : decode cL_law 1108 = .ok (.if_icmp .ne 44, 3) := by decide +kernel
theorem dL_law_1111 : decode cL_law 1111 = .ok (.aload_n 2, 1) := by decide +kernel
theorem dL_law_1112 : decode cL_law 1112 = .ok (.invokestatic 294, 3) := by decide +kernel
theorem dL_law_1115 : decode cL_law 1115 = .ok (.sipush (-1001), 3) := by decide +kernel
theorem dL_law_1118 : decode cL_law 1118 = .ok (.if_icmp .ne 34, 3) := by decide +kernel
theorem dL_law_1121 : decode cL_law 1121 = .ok (.aload_n 2, 1) := by decide +kernel
theorem dL_law_1122 : decode cL_law 1122 = .ok (.invokestatic 278, 3) := by decide +kernel
theorem dL_law_1125 : decode cL_law 1125 = .ok (.lload_n 3, 1) := by decide +kernel
theorem dL_law_1126 : decode cL_law 1126 = .ok (.lcmp, 1) := by decide +kernel
theorem dL_law_1127 : decode cL_law 1127 = .ok (.ifCond .ne 25, 3) := by decide +kernel
theorem dL_law_1130 : decode cL_law 1130 = .ok (.aload_n 2, 1) := by decide +kernel
theorem dL_law_1131 : decode cL_law 1131 = .ok (.invokestatic 296, 3) := by decide +kernel
theorem dL_law_1134 : decode cL_law 1134 = .ok (.iload 5, 2) := by decide +kernel
theorem dL_law_1136 : decode cL_law 1136 = .ok (.if_icmp .ne 16, 3) := by decide +kernel
theorem dL_law_1139 : decode cL_law 1139 = .ok (.aload_n 2, 1) := by decide +kernel
theorem dL_law_1140 : decode cL_law 1140 = .ok (.invokestatic 278, 3) := by decide +kernel
theorem dL_law_1143 : decode cL_law 1143 = .ok (.lload_n 3, 1) := by decide +kernel
theorem dL_law_1144 : decode cL_law 1144 = .ok (.lcmp, 1) := by decide +kernel
theorem dL_law_1145 : decode cL_law 1145 = .ok (.ifCond .ne 7, 3) := by decide +kernel
theorem dL_law_1148 : decode cL_law 1148 = .ok (.iconst 1, 1) := by decide +kernel
theorem dL_law_1149 : decode cL_law 1149 = .ok (.goto 4, 3) := by decide +kernel
theorem dL_law_1152 : decode cL_law 1152 = .ok (.iconst 0, 1) := by decide +kernel
theorem dL_law_1153 : decode cL_law 1153 = .ok (.ireturn, 1) := by decide +kernel
