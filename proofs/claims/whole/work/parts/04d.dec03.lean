theorem dX11_state_0 : decode cX11_state 0 = .ok (.aload_n 0, 1) := by decide +kernel
theorem dX11_state_1 : decode cX11_state 1 = .ok (.iload_n 1, 1) := by decide +kernel
theorem dX11_state_2 : decode cX11_state 2 = .ok (.iload_n 2, 1) := by decide +kernel
theorem dX11_state_3 : decode cX11_state 3 = .ok (.iload_n 3, 1) := by decide +kernel
theorem dX11_state_4 : decode cX11_state 4 = .ok (.invokevirtual 123, 3) := by decide +kernel
theorem dX11_state_7 : decode cX11_state 7 = .ok (.ifCond .eq 15, 3) := by decide +kernel
theorem dX11_state_10 : decode cX11_state 10 = .ok (.aload_n 0, 1) := by decide +kernel
theorem dX11_state_11 : decode cX11_state 11 = .ok (.getfield 34, 3) := by decide +kernel
theorem dX11_state_14 : decode cX11_state 14 = .ok (.iload 4, 2) := by decide +kernel
theorem dX11_state_16 : decode cX11_state 16 = .ok (.invokevirtual 127, 3) := by decide +kernel
theorem dX11_state_19 : decode cX11_state 19 = .ok (.goto 5, 3) := by decide +kernel
theorem dX11_state_22 : decode cX11_state 22 = .ok (.bipush (-2), 2) := by decide +kernel
theorem dX11_state_24 : decode cX11_state 24 = .ok (.ireturn, 1) := by decide +kernel
theorem dX11_cell_0 : decode cX11_cell 0 = .ok (.aload_n 0, 1) := by decide +kernel
theorem dX11_cell_1 : decode cX11_cell 1 = .ok (.iload_n 1, 1) := by decide +kernel
theorem dX11_cell_2 : decode cX11_cell 2 = .ok (.iload_n 2, 1) := by decide +kernel
theorem dX11_cell_3 : decode cX11_cell 3 = .ok (.invokevirtual 116, 3) := by decide +kernel
theorem dX11_cell_6 : decode cX11_cell 6 = .ok (.ifCond .ne 6, 3) := by decide +kernel
theorem dX11_cell_9 : decode cX11_cell 9 = .ok (.bipush (-2), 2) := by decide +kernel
theorem dX11_cell_11 : decode cX11_cell 11 = .ok (.ireturn, 1) := by decide +kernel
theorem dX11_cell_12 : decode cX11_cell 12 = .ok (.aload_n 0, 1) := by decide +kernel
theorem dX11_cell_13 : decode cX11_cell 13 = .ok (.getfield 34, 3) := by decide +kernel
theorem dX11_cell_16 : decode cX11_cell 16 = .ok (.aload_n 0, 1) := by decide +kernel
theorem dX11_cell_17 : decode cX11_cell 17 = .ok (.getfield 12, 3) := by decide +kernel
theorem dX11_cell_20 : decode cX11_cell 20 = .ok (.iload_n 2, 1) := by decide +kernel
theorem dX11_cell_21 : decode cX11_cell 21 = .ok (.bipush 40, 2) := by decide +kernel
theorem dX11_cell_23 : decode cX11_cell 23 = .ok (.invokevirtual 119, 3) := by decide +kernel
theorem dX11_cell_26 : decode cX11_cell 26 = .ok (.pop, 1) := by decide +kernel
theorem dX11_cell_27 : decode cX11_cell 27 = .ok (.aload_n 0, 1) := by decide +kernel
theorem dX11_cell_28 : decode cX11_cell 28 = .ok (.getfield 34, 3) := by decide +kernel
theorem dX11_cell_31 : decode cX11_cell 31 = .ok (.getfield 131, 3) := by decide +kernel
theorem dX11_cell_34 : decode cX11_cell 34 = .ok (.iload_n 3, 1) := by decide +kernel
theorem dX11_cell_35 : decode cX11_cell 35 = .ok (.iload 4, 2) := by decide +kernel
theorem dX11_cell_37 : decode cX11_cell 37 = .ok (.invokevirtual 135, 3) := by decide +kernel
theorem dX11_cell_40 : decode cX11_cell 40 = .ok (.ireturn, 1) := by decide +kernel
theorem dX11_full_0 : decode cX11_full 0 = .ok (.aload_n 0, 1) := by decide +kernel
theorem dX11_full_1 : decode cX11_full 1 = .ok (.getfield 12, 3) := by decide +kernel
theorem dX11_full_4 : decode cX11_full 4 = .ok (.iconst 0, 1) := by decide +kernel
theorem dX11_full_5 : decode cX11_full 5 = .ok (.iload_n 1, 1) := by decide +kernel
theorem dX11_full_6 : decode cX11_full 6 = .ok (.invokevirtual 105, 3) := by decide +kernel
theorem dX11_full_9 : decode cX11_full 9 = .ok (.ifCond .eq 13, 3) := by decide +kernel
theorem dX11_full_12 : decode cX11_full 12 = .ok (.iload_n 2, 1) := by decide +kernel
theorem dX11_full_13 : decode cX11_full 13 = .ok (.ifCond .lt 9, 3) := by decide +kernel
theorem dX11_full_16 : decode cX11_full 16 = .ok (.iload_n 2, 1) := by decide +kernel
theorem dX11_full_17 : decode cX11_full 17 = .ok (.bipush 100, 2) := by decide +kernel
theorem dX11_full_19 : decode cX11_full 19 = .ok (.if_icmp .lt 5, 3) := by decide +kernel
theorem dX11_full_22 : decode cX11_full 22 = .ok (.iconst (-1), 1) := by decide +kernel
theorem dX11_full_23 : decode cX11_full 23 = .ok (.ireturn, 1) := by decide +kernel
theorem dX11_full_24 : decode cX11_full 24 = .ok (.iload_n 3, 1) := by decide +kernel
theorem dX11_full_25 : decode cX11_full 25 = .ok (.ifCond .lt 16, 3) := by decide +kernel
theorem dX11_full_28 : decode cX11_full 28 = .ok (.iload_n 3, 1) := by decide +kernel
theorem dX11_full_29 : decode cX11_full 29 = .ok (.aload_n 0, 1) := by decide +kernel
theorem dX11_full_30 : decode cX11_full 30 = .ok (.getfield 12, 3) := by decide +kernel
theorem dX11_full_33 : decode cX11_full 33 = .ok (.iload_n 1, 1) := by decide +kernel
theorem dX11_full_34 : decode cX11_full 34 = .ok (.iconst 0, 1) := by decide +kernel
theorem dX11_full_35 : decode cX11_full 35 = .ok (.invokevirtual 108, 3) := by decide +kernel
theorem dX11_full_38 : decode cX11_full 38 = .ok (.if_icmp .lt 5, 3) := by decide +kernel
theorem dX11_full_41 : decode cX11_full 41 = .ok (.iconst (-1), 1) := by decide +kernel
theorem dX11_full_42 : decode cX11_full 42 = .ok (.ireturn, 1) := by decide +kernel
theorem dX11_full_43 : decode cX11_full 43 = .ok (.aload_n 0, 1) := by decide +kernel
theorem dX11_full_44 : decode cX11_full 44 = .ok (.getfield 41, 3) := by decide +kernel
theorem dX11_full_47 : decode cX11_full 47 = .ok (.aload_n 0, 1) := by decide +kernel
theorem dX11_full_48 : decode cX11_full 48 = .ok (.getfield 12, 3) := by decide +kernel
theorem dX11_full_51 : decode cX11_full 51 = .ok (.iload_n 1, 1) := by decide +kernel
theorem dX11_full_52 : decode cX11_full 52 = .ok (.iload_n 2, 1) := by decide +kernel
theorem dX11_full_53 : decode cX11_full 53 = .ok (.iload_n 3, 1) := by decide +kernel
theorem dX11_full_54 : decode cX11_full 54 = .ok (.invokevirtual 139, 3) := by decide +kernel
theorem dX11_full_57 : decode cX11_full 57 = .ok (.ireturn, 1) := by decide +kernel
theorem dX11_rhythm_0 : decode cX11_rhythm 0 = .ok (.aload_n 0, 1) := by decide +kernel
theorem dX11_rhythm_1 : decode cX11_rhythm 1 = .ok (.getfield 12, 3) := by decide +kernel
theorem dX11_rhythm_4 : decode cX11_rhythm 4 = .ok (.iconst 0, 1) := by decide +kernel
theorem dX11_rhythm_5 : decode cX11_rhythm 5 = .ok (.iload_n 1, 1) := by decide +kernel
theorem dX11_rhythm_6 : decode cX11_rhythm 6 = .ok (.invokevirtual 105, 3) := by decide +kernel
theorem dX11_rhythm_9 : decode cX11_rhythm 9 = .ok (.ifCond .ne 6, 3) := by decide +kernel
theorem dX11_rhythm_12 : decode cX11_rhythm 12 = .ok (.bipush (-2), 2) := by decide +kernel
theorem dX11_rhythm_14 : decode cX11_rhythm 14 = .ok (.ireturn, 1) := by decide +kernel
theorem dX11_rhythm_15 : decode cX11_rhythm 15 = .ok (.aload_n 0, 1) := by decide +kernel
theorem dX11_rhythm_16 : decode cX11_rhythm 16 = .ok (.getfield 41, 3) := by decide +kernel
theorem dX11_rhythm_19 : decode cX11_rhythm 19 = .ok (.aload_n 0, 1) := by decide +kernel
theorem dX11_rhythm_20 : decode cX11_rhythm 20 = .ok (.getfield 12, 3) := by decide +kernel
theorem dX11_rhythm_23 : decode cX11_rhythm 23 = .ok (.iload_n 1, 1) := by decide +kernel
theorem dX11_rhythm_24 : decode cX11_rhythm 24 = .ok (.iload_n 2, 1) := by decide +kernel
theorem dX11_rhythm_25 : decode cX11_rhythm 25 = .ok (.invokevirtual 143, 3) := by decide +kernel
theorem dX11_rhythm_28 : decode cX11_rhythm 28 = .ok (.ireturn, 1) := by decide +kernel
theorem dX11_judge_0 : decode cX11_judge 0 = .ok (.aload_n 0, 1) := by decide +kernel
theorem dX11_judge_1 : decode cX11_judge 1 = .ok (.iload_n 1, 1) := by decide +kernel
theorem dX11_judge_2 : decode cX11_judge 2 = .ok (.iload_n 2, 1) := by decide +kernel
theorem dX11_judge_3 : decode cX11_judge 3 = .ok (.iload_n 3, 1) := by decide +kernel
theorem dX11_judge_4 : decode cX11_judge 4 = .ok (.invokevirtual 123, 3) := by decide +kernel
theorem dX11_judge_7 : decode cX11_judge 7 = .ok (.ifCond .eq 19, 3) := by decide +kernel
theorem dX11_judge_10 : decode cX11_judge 10 = .ok (.aload_n 0, 1) := by decide +kernel
theorem dX11_judge_11 : decode cX11_judge 11 = .ok (.getfield 48, 3) := by decide +kernel
theorem dX11_judge_14 : decode cX11_judge 14 = .ok (.aload_n 0, 1) := by decide +kernel
theorem dX11_judge_15 : decode cX11_judge 15 = .ok (.getfield 34, 3) := by decide +kernel
theorem dX11_judge_18 : decode cX11_judge 18 = .ok (.iload 4, 2) := by decide +kernel
theorem dX11_judge_20 : decode cX11_judge 20 = .ok (.invokevirtual 146, 3) := by decide +kernel
theorem dX11_judge_23 : decode cX11_judge 23 = .ok (.goto 5, 3) := by decide +kernel
theorem dX11_judge_26 : decode cX11_judge 26 = .ok (.bipush (-2), 2) := by decide +kernel
theorem dX11_judge_28 : decode cX11_judge 28 = .ok (.ireturn, 1) := by decide +kernel
theorem dX11_mimic_0 : decode cX11_mimic 0 = .ok (.iload 4, 2) := by decide +kernel
theorem dX11_mimic_2 : decode cX11_mimic 2 = .ok (.ifCond .lt 18, 3) := by decide +kernel
theorem dX11_mimic_5 : decode cX11_mimic 5 = .ok (.iload 4, 2) := by decide +kernel
theorem dX11_mimic_7 : decode cX11_mimic 7 = .ok (.iconst 2, 1) := by decide +kernel
theorem dX11_mimic_8 : decode cX11_mimic 8 = .ok (.if_icmp .gt 12, 3) := by decide +kernel
theorem dX11_mimic_11 : decode cX11_mimic 11 = .ok (.aload_n 0, 1) := by decide +kernel
theorem dX11_mimic_12 : decode cX11_mimic 12 = .ok (.iload_n 1, 1) := by decide +kernel
theorem dX11_mimic_13 : decode cX11_mimic 13 = .ok (.iload_n 2, 1) := by decide +kernel
theorem dX11_mimic_14 : decode cX11_mimic 14 = .ok (.invokevirtual 116, 3) := by decide +kernel
theorem dX11_mimic_17 : decode cX11_mimic 17 = .ok (.ifCond .ne 5, 3) := by decide +kernel
theorem dX11_mimic_20 : decode cX11_mimic 20 = .ok (.iconst (-1), 1) := by decide +kernel
theorem dX11_mimic_21 : decode cX11_mimic 21 = .ok (.ireturn, 1) := by decide +kernel
theorem dX11_mimic_22 : decode cX11_mimic 22 = .ok (.aload_n 0, 1) := by decide +kernel
theorem dX11_mimic_23 : decode cX11_mimic 23 = .ok (.getfield 55, 3) := by decide +kernel
theorem dX11_mimic_26 : decode cX11_mimic 26 = .ok (.aload_n 0, 1) := by decide +kernel
theorem dX11_mimic_27 : decode cX11_mimic 27 = .ok (.getfield 12, 3) := by decide +kernel
theorem dX11_mimic_30 : decode cX11_mimic 30 = .ok (.iload_n 2, 1) := by decide +kernel
theorem dX11_mimic_31 : decode cX11_mimic 31 = .ok (.aload_n 0, 1) := by decide +kernel
theorem dX11_mimic_32 : decode cX11_mimic 32 = .ok (.getfield 34, 3) := by decide +kernel
theorem dX11_mimic_35 : decode cX11_mimic 35 = .ok (.aload_n 0, 1) := by decide +kernel
theorem dX11_mimic_36 : decode cX11_mimic 36 = .ok (.getfield 12, 3) := by decide +kernel
theorem dX11_mimic_39 : decode cX11_mimic 39 = .ok (.iload_n 2, 1) := by decide +kernel
theorem dX11_mimic_40 : decode cX11_mimic 40 = .ok (.bipush 40, 2) := by decide +kernel
theorem dX11_mimic_42 : decode cX11_mimic 42 = .ok (.invokevirtual 119, 3) := by decide +kernel
theorem dX11_mimic_45 : decode cX11_mimic 45 = .ok (.invokevirtual 149, 3) := by decide +kernel
theorem dX11_mimic_48 : decode cX11_mimic 48 = .ok (.iload_n 3, 1) := by decide +kernel
theorem dX11_mimic_49 : decode cX11_mimic 49 = .ok (.iconst (-1), 1) := by decide +kernel
theorem dX11_mimic_50 : decode cX11_mimic 50 = .ok (.if_icmp .eq 20, 3) := by decide +kernel
theorem dX11_mimic_53 : decode cX11_mimic 53 = .ok (.iload_n 3, 1) := by decide +kernel
theorem dX11_mimic_54 : decode cX11_mimic 54 = .ok (.ifCond .lt 14, 3) := by decide +kernel
theorem dX11_mimic_57 : decode cX11_mimic 57 = .ok (.iload_n 3, 1) := by decide +kernel
theorem dX11_mimic_58 : decode cX11_mimic 58 = .ok (.aload_n 0, 1) := by decide +kernel
theorem dX11_mimic_59 : decode cX11_mimic 59 = .ok (.getfield 55, 3) := by decide +kernel
theorem dX11_mimic_62 : decode cX11_mimic 62 = .ok (.getfield 153, 3) := by decide +kernel
theorem dX11_mimic_65 : decode cX11_mimic 65 = .ok (.if_icmp .lt 5, 3) := by decide +kernel
theorem dX11_mimic_68 : decode cX11_mimic 68 = .ok (.iconst (-1), 1) := by decide +kernel
theorem dX11_mimic_69 : decode cX11_mimic 69 = .ok (.ireturn, 1) := by decide +kernel
theorem dX11_mimic_70 : decode cX11_mimic 70 = .ok (.aload_n 0, 1) := by decide +kernel
theorem dX11_mimic_71 : decode cX11_mimic 71 = .ok (.getfield 55, 3) := by decide +kernel
theorem dX11_mimic_74 : decode cX11_mimic 74 = .ok (.iload_n 3, 1) := by decide +kernel
theorem dX11_mimic_75 : decode cX11_mimic 75 = .ok (.iload 4, 2) := by decide +kernel
theorem dX11_mimic_77 : decode cX11_mimic 77 = .ok (.invokevirtual 156, 3) := by decide +kernel
theorem dX11_mimic_80 : decode cX11_mimic 80 = .ok (.ireturn, 1) := by decide +kernel
theorem dX11_flow_0 : decode cX11_flow 0 = .ok (.aload_n 0, 1) := by decide +kernel
theorem dX11_flow_1 : decode cX11_flow 1 = .ok (.iload_n 1, 1) := by decide +kernel
theorem dX11_flow_2 : decode cX11_flow 2 = .ok (.iload_n 2, 1) := by decide +kernel
theorem dX11_flow_3 : decode cX11_flow 3 = .ok (.invokevirtual 116, 3) := by decide +kernel
theorem dX11_flow_6 : decode cX11_flow 6 = .ok (.ifCond .ne 5, 3) := by decide +kernel
theorem dX11_flow_9 : decode cX11_flow 9 = .ok (.iconst (-1), 1) := by decide +kernel
theorem dX11_flow_10 : decode cX11_flow 10 = .ok (.ireturn, 1) := by decide +kernel
theorem dX11_flow_11 : decode cX11_flow 11 = .ok (.aload_n 0, 1) := by decide +kernel
theorem dX11_flow_12 : decode cX11_flow 12 = .ok (.getfield 34, 3) := by decide +kernel
theorem dX11_flow_15 : decode cX11_flow 15 = .ok (.aload_n 0, 1) := by decide +kernel
theorem dX11_flow_16 : decode cX11_flow 16 = .ok (.getfield 12, 3) := by decide +kernel
theorem dX11_flow_19 : decode cX11_flow 19 = .ok (.iload_n 2, 1) := by decide +kernel
theorem dX11_flow_20 : decode cX11_flow 20 = .ok (.bipush 40, 2) := by decide +kernel
theorem dX11_flow_22 : decode cX11_flow 22 = .ok (.invokevirtual 119, 3) := by decide +kernel
theorem dX11_flow_25 : decode cX11_flow 25 = .ok (.pop, 1) := by decide +kernel
theorem dX11_flow_26 : decode cX11_flow 26 = .ok (.aload_n 0, 1) := by decide +kernel
theorem dX11_flow_27 : decode cX11_flow 27 = .ok (.getfield 62, 3) := by decide +kernel
theorem dX11_flow_30 : decode cX11_flow 30 = .ok (.aload_n 0, 1) := by decide +kernel
theorem dX11_flow_31 : decode cX11_flow 31 = .ok (.getfield 34, 3) := by decide +kernel
theorem dX11_flow_34 : decode cX11_flow 34 = .ok (.invokevirtual 157, 3) := by decide +kernel
theorem dX11_flow_37 : decode cX11_flow 37 = .ok (.aload_n 0, 1) := by decide +kernel
theorem dX11_flow_38 : decode cX11_flow 38 = .ok (.getfield 62, 3) := by decide +kernel
theorem dX11_flow_41 : decode cX11_flow 41 = .ok (.aload_n 0, 1) := by decide +kernel
theorem dX11_flow_42 : decode cX11_flow 42 = .ok (.getfield 34, 3) := by decide +kernel
theorem dX11_flow_45 : decode cX11_flow 45 = .ok (.iload_n 3, 1) := by decide +kernel
theorem dX11_flow_46 : decode cX11_flow 46 = .ok (.iload 4, 2) := by decide +kernel
theorem dX11_flow_48 : decode cX11_flow 48 = .ok (.invokevirtual 161, 3) := by decide +kernel
theorem dX11_flow_51 : decode cX11_flow 51 = .ok (.ireturn, 1) := by decide +kernel
theorem dX11_after_0 : decode cX11_after 0 = .ok (.aload_n 0, 1) := by decide +kernel
theorem dX11_after_1 : decode cX11_after 1 = .ok (.iload_n 1, 1) := by decide +kernel
theorem dX11_after_2 : decode cX11_after 2 = .ok (.iload_n 2, 1) := by decide +kernel
theorem dX11_after_3 : decode cX11_after 3 = .ok (.invokevirtual 116, 3) := by decide +kernel
theorem dX11_after_6 : decode cX11_after 6 = .ok (.ifCond .ne 6, 3) := by decide +kernel
theorem dX11_after_9 : decode cX11_after 9 = .ok (.bipush (-2), 2) := by decide +kernel
theorem dX11_after_11 : decode cX11_after 11 = .ok (.ireturn, 1) := by decide +kernel
theorem dX11_after_12 : decode cX11_after 12 = .ok (.aload_n 0, 1) := by decide +kernel
theorem dX11_after_13 : decode cX11_after 13 = .ok (.getfield 34, 3) := by decide +kernel
theorem dX11_after_16 : decode cX11_after 16 = .ok (.aload_n 0, 1) := by decide +kernel
theorem dX11_after_17 : decode cX11_after 17 = .ok (.getfield 12, 3) := by decide +kernel
theorem dX11_after_20 : decode cX11_after 20 = .ok (.iload_n 2, 1) := by decide +kernel
theorem dX11_after_21 : decode cX11_after 21 = .ok (.bipush 40, 2) := by decide +kernel
theorem dX11_after_23 : decode cX11_after 23 = .ok (.invokevirtual 119, 3) := by decide +kernel
theorem dX11_after_26 : decode cX11_after 26 = .ok (.pop, 1) := by decide +kernel
theorem dX11_after_27 : decode cX11_after 27 = .ok (.aload_n 0, 1) := by decide +kernel
theorem dX11_after_28 : decode cX11_after 28 = .ok (.getfield 62, 3) := by decide +kernel
theorem dX11_after_31 : decode cX11_after 31 = .ok (.aload_n 0, 1) := by decide +kernel
theorem dX11_after_32 : decode cX11_after 32 = .ok (.getfield 34, 3) := by decide +kernel
theorem dX11_after_35 : decode cX11_after 35 = .ok (.iload_n 3, 1) := by decide +kernel
theorem dX11_after_36 : decode cX11_after 36 = .ok (.invokevirtual 165, 3) := by decide +kernel
theorem dX11_after_39 : decode cX11_after 39 = .ok (.ireturn, 1) := by decide +kernel
theorem dX11_fact_0 : decode cX11_fact 0 = .ok (.aload_n 0, 1) := by decide +kernel
theorem dX11_fact_1 : decode cX11_fact 1 = .ok (.iconst 2, 1) := by decide +kernel
theorem dX11_fact_2 : decode cX11_fact 2 = .ok (.iload_n 1, 1) := by decide +kernel
theorem dX11_fact_3 : decode cX11_fact 3 = .ok (.iload_n 2, 1) := by decide +kernel
theorem dX11_fact_4 : decode cX11_fact 4 = .ok (.iload_n 3, 1) := by decide +kernel
theorem dX11_fact_5 : decode cX11_fact 5 = .ok (.iconst 3, 1) := by decide +kernel
theorem dX11_fact_6 : decode cX11_fact 6 = .ok (.invokevirtual 112, 3) := by decide +kernel
theorem dX11_fact_9 : decode cX11_fact 9 = .ok (.ireturn, 1) := by decide +kernel
theorem dX11_fits_0 : decode cX11_fits 0 = .ok (.aload_n 0, 1) := by decide +kernel
theorem dX11_fits_1 : decode cX11_fits 1 = .ok (.getfield 12, 3) := by decide +kernel
theorem dX11_fits_4 : decode cX11_fits 4 = .ok (.iconst 0, 1) := by decide +kernel
theorem dX11_fits_5 : decode cX11_fits 5 = .ok (.iload_n 1, 1) := by decide +kernel
theorem dX11_fits_6 : decode cX11_fits 6 = .ok (.invokevirtual 105, 3) := by decide +kernel
theorem dX11_fits_9 : decode cX11_fits 9 = .ok (.ifCond .eq 27, 3) := by decide +kernel
theorem dX11_fits_12 : decode cX11_fits 12 = .ok (.aload_n 0, 1) := by decide +kernel
theorem dX11_fits_13 : decode cX11_fits 13 = .ok (.getfield 12, 3) := by decide +kernel
theorem dX11_fits_16 : decode cX11_fits 16 = .ok (.iconst 1, 1) := by decide +kernel
theorem dX11_fits_17 : decode cX11_fits 17 = .ok (.iload_n 2, 1) := by decide +kernel
theorem dX11_fits_18 : decode cX11_fits 18 = .ok (.invokevirtual 105, 3) := by decide +kernel
theorem dX11_fits_21 : decode cX11_fits 21 = .ok (.ifCond .eq 15, 3) := by decide +kernel
theorem dX11_fits_24 : decode cX11_fits 24 = .ok (.aload_n 0, 1) := by decide +kernel
theorem dX11_fits_25 : decode cX11_fits 25 = .ok (.getfield 12, 3) := by decide +kernel
theorem dX11_fits_28 : decode cX11_fits 28 = .ok (.iconst 2, 1) := by decide +kernel
theorem dX11_fits_29 : decode cX11_fits 29 = .ok (.iload_n 3, 1) := by decide +kernel
theorem dX11_fits_30 : decode cX11_fits 30 = .ok (.invokevirtual 105, 3) := by decide +kernel
theorem dX11_fits_33 : decode cX11_fits 33 = .ok (.ifCond .ne 6, 3) := by decide +kernel
theorem dX11_fits_36 : decode cX11_fits 36 = .ok (.bipush (-2), 2) := by decide +kernel
theorem dX11_fits_38 : decode cX11_fits 38 = .ok (.ireturn, 1) := by decide +kernel
theorem dX11_fits_39 : decode cX11_fits 39 = .ok (.aload_n 0, 1) := by decide +kernel
theorem dX11_fits_40 : decode cX11_fits 40 = .ok (.getfield 69, 3) := by decide +kernel
theorem dX11_fits_43 : decode cX11_fits 43 = .ok (.aload_n 0, 1) := by decide +kernel
theorem dX11_fits_44 : decode cX11_fits 44 = .ok (.getfield 12, 3) := by decide +kernel
theorem dX11_fits_47 : decode cX11_fits 47 = .ok (.iload_n 1, 1) := by decide +kernel
theorem dX11_fits_48 : decode cX11_fits 48 = .ok (.iconst 0, 1) := by decide +kernel
theorem dX11_fits_49 : decode cX11_fits 49 = .ok (.invokevirtual 108, 3) := by decide +kernel
theorem dX11_fits_52 : decode cX11_fits 52 = .ok (.invokevirtual 166, 3) := by decide +kernel
theorem dX11_fits_55 : decode cX11_fits 55 = .ok (.iconst 1, 1) := by decide +kernel
theorem dX11_fits_56 : decode cX11_fits 56 = .ok (.istore 5, 2) := by decide +kernel
theorem dX11_fits_58 : decode cX11_fits 58 = .ok (.iload 5, 2) := by decide +kernel
theorem dX11_fits_60 : decode cX11_fits 60 = .ok (.iconst 4, 1) := by decide +kernel
theorem dX11_fits_61 : decode cX11_fits 61 = .ok (.if_icmp .gt 88, 3) := by decide +kernel
theorem dX11_fits_64 : decode cX11_fits 64 = .ok (.iconst 0, 1) := by decide +kernel
theorem dX11_fits_65 : decode cX11_fits 65 = .ok (.istore 6, 2) := by decide +kernel
theorem dX11_fits_67 : decode cX11_fits 67 = .ok (.iload 6, 2) := by decide +kernel
theorem dX11_fits_69 : decode cX11_fits 69 = .ok (.aload_n 0, 1) := by decide +kernel
theorem dX11_fits_70 : decode cX11_fits 70 = .ok (.getfield 69, 3) := by decide +kernel
theorem dX11_fits_73 : decode cX11_fits 73 = .ok (.getfield 169, 3) := by decide +kernel
theorem dX11_fits_76 : decode cX11_fits 76 = .ok (.if_icmp .ge 67, 3) := by decide +kernel
theorem dX11_fits_79 : decode cX11_fits 79 = .ok (.aload_n 0, 1) := by decide +kernel
theorem dX11_fits_80 : decode cX11_fits 80 = .ok (.getfield 34, 3) := by decide +kernel
theorem dX11_fits_83 : decode cX11_fits 83 = .ok (.aload_n 0, 1) := by decide +kernel
theorem dX11_fits_84 : decode cX11_fits 84 = .ok (.getfield 12, 3) := by decide +kernel
theorem dX11_fits_87 : decode cX11_fits 87 = .ok (.iload_n 1, 1) := by decide +kernel
theorem dX11_fits_88 : decode cX11_fits 88 = .ok (.iload 5, 2) := by decide +kernel
theorem dX11_fits_90 : decode cX11_fits 90 = .ok (.iload 6, 2) := by decide +kernel
theorem dX11_fits_92 : decode cX11_fits 92 = .ok (.invokevirtual 172, 3) := by decide +kernel
theorem dX11_fits_95 : decode cX11_fits 95 = .ok (.aload_n 0, 1) := by decide +kernel
theorem dX11_fits_96 : decode cX11_fits 96 = .ok (.getfield 34, 3) := by decide +kernel
theorem dX11_fits_99 : decode cX11_fits 99 = .ok (.aload_n 0, 1) := by decide +kernel
theorem dX11_fits_100 : decode cX11_fits 100 = .ok (.getfield 12, 3) := by decide +kernel
theorem dX11_fits_103 : decode cX11_fits 103 = .ok (.iload_n 2, 1) := by decide +kernel
theorem dX11_fits_104 : decode cX11_fits 104 = .ok (.bipush 40, 2) := by decide +kernel
theorem dX11_fits_106 : decode cX11_fits 106 = .ok (.invokevirtual 119, 3) := by decide +kernel
theorem dX11_fits_109 : decode cX11_fits 109 = .ok (.pop, 1) := by decide +kernel
theorem dX11_fits_110 : decode cX11_fits 110 = .ok (.aload_n 0, 1) := by decide +kernel
theorem dX11_fits_111 : decode cX11_fits 111 = .ok (.getfield 69, 3) := by decide +kernel
theorem dX11_fits_114 : decode cX11_fits 114 = .ok (.aload_n 0, 1) := by decide +kernel
theorem dX11_fits_115 : decode cX11_fits 115 = .ok (.getfield 12, 3) := by decide +kernel
theorem dX11_fits_118 : decode cX11_fits 118 = .ok (.iload_n 3, 1) := by decide +kernel
theorem dX11_fits_119 : decode cX11_fits 119 = .ok (.bipush 10, 2) := by decide +kernel
theorem dX11_fits_121 : decode cX11_fits 121 = .ok (.iload 5, 2) := by decide +kernel
theorem dX11_fits_123 : decode cX11_fits 123 = .ok (.imul, 1) := by decide +kernel
theorem dX11_fits_124 : decode cX11_fits 124 = .ok (.iload 6, 2) := by decide +kernel
theorem dX11_fits_126 : decode cX11_fits 126 = .ok (.iadd, 1) := by decide +kernel
theorem dX11_fits_127 : decode cX11_fits 127 = .ok (.aload_n 0, 1) := by decide +kernel
theorem dX11_fits_128 : decode cX11_fits 128 = .ok (.getfield 34, 3) := by decide +kernel
theorem dX11_fits_131 : decode cX11_fits 131 = .ok (.getfield 175, 3) := by decide +kernel
theorem dX11_fits_134 : decode cX11_fits 134 = .ok (.invokevirtual 179, 3) := by decide +kernel
theorem dX11_fits_137 : decode cX11_fits 137 = .ok (.iinc 6 1, 3) := by decide +kernel
theorem dX11_fits_140 : decode cX11_fits 140 = .ok (.goto (-73), 3) := by decide +kernel
theorem dX11_fits_143 : decode cX11_fits 143 = .ok (.iinc 5 1, 3) := by decide +kernel
theorem dX11_fits_146 : decode cX11_fits 146 = .ok (.goto (-88), 3) := by decide +kernel
theorem dX11_fits_149 : decode cX11_fits 149 = .ok (.aload_n 0, 1) := by decide +kernel
theorem dX11_fits_150 : decode cX11_fits 150 = .ok (.getfield 69, 3) := by decide +kernel
theorem dX11_fits_153 : decode cX11_fits 153 = .ok (.iload 4, 2) := by decide +kernel
theorem dX11_fits_155 : decode cX11_fits 155 = .ok (.invokevirtual 183, 3) := by decide +kernel
theorem dX11_fits_158 : decode cX11_fits 158 = .ok (.ireturn, 1) := by decide +kernel
theorem dX11_drawn_0 : decode cX11_drawn 0 = .ok (.aload_n 0, 1) := by decide +kernel
theorem dX11_drawn_1 : decode cX11_drawn 1 = .ok (.getfield 12, 3) := by decide +kernel
theorem dX11_drawn_4 : decode cX11_drawn 4 = .ok (.iconst 0, 1) := by decide +kernel
theorem dX11_drawn_5 : decode cX11_drawn 5 = .ok (.iload_n 1, 1) := by decide +kernel
theorem dX11_drawn_6 : decode cX11_drawn 6 = .ok (.invokevirtual 105, 3) := by decide +kernel
theorem dX11_drawn_9 : decode cX11_drawn 9 = .ok (.ifCond .eq 13, 3) := by decide +kernel
theorem dX11_drawn_12 : decode cX11_drawn 12 = .ok (.iload_n 3, 1) := by decide +kernel
theorem dX11_drawn_13 : decode cX11_drawn 13 = .ok (.ifCond .lt 9, 3) := by decide +kernel
theorem dX11_drawn_16 : decode cX11_drawn 16 = .ok (.iload_n 3, 1) := by decide +kernel
theorem dX11_drawn_17 : decode cX11_drawn 17 = .ok (.bipush 60, 2) := by decide +kernel
theorem dX11_drawn_19 : decode cX11_drawn 19 = .ok (.if_icmp .le 6, 3) := by decide +kernel
theorem dX11_drawn_22 : decode cX11_drawn 22 = .ok (.bipush (-2), 2) := by decide +kernel
theorem dX11_drawn_24 : decode cX11_drawn 24 = .ok (.ireturn, 1) := by decide +kernel
theorem dX11_drawn_25 : decode cX11_drawn 25 = .ok (.aload_n 0, 1) := by decide +kernel
theorem dX11_drawn_26 : decode cX11_drawn 26 = .ok (.getfield 34, 3) := by decide +kernel
theorem dX11_drawn_29 : decode cX11_drawn 29 = .ok (.aload_n 0, 1) := by decide +kernel
theorem dX11_drawn_30 : decode cX11_drawn 30 = .ok (.getfield 12, 3) := by decide +kernel
theorem dX11_drawn_33 : decode cX11_drawn 33 = .ok (.iload_n 1, 1) := by decide +kernel
theorem dX11_drawn_34 : decode cX11_drawn 34 = .ok (.invokevirtual 184, 3) := by decide +kernel
theorem dX11_drawn_37 : decode cX11_drawn 37 = .ok (.aload_n 0, 1) := by decide +kernel
theorem dX11_drawn_38 : decode cX11_drawn 38 = .ok (.getfield 34, 3) := by decide +kernel
theorem dX11_drawn_41 : decode cX11_drawn 41 = .ok (.iload_n 2, 1) := by decide +kernel
theorem dX11_drawn_42 : decode cX11_drawn 42 = .ok (.iload_n 3, 1) := by decide +kernel
theorem dX11_drawn_43 : decode cX11_drawn 43 = .ok (.invokevirtual 187, 3) := by decide +kernel
theorem dX11_drawn_46 : decode cX11_drawn 46 = .ok (.aload_n 0, 1) := by decide +kernel
theorem dX11_drawn_47 : decode cX11_drawn 47 = .ok (.getfield 34, 3) := by decide +kernel
theorem dX11_drawn_50 : decode cX11_drawn 50 = .ok (.iload 4, 2) := by decide +kernel
theorem dX11_drawn_52 : decode cX11_drawn 52 = .ok (.invokevirtual 127, 3) := by decide +kernel
theorem dX11_drawn_55 : decode cX11_drawn 55 = .ok (.ireturn, 1) := by decide +kernel
theorem dX11_count_0 : decode cX11_count 0 = .ok (.iload_n 1, 1) := by decide +kernel
theorem dX11_count_1 : decode cX11_count 1 = .ok (.ifCond .lt 8, 3) := by decide +kernel
theorem dX11_count_4 : decode cX11_count 4 = .ok (.iload_n 1, 1) := by decide +kernel
theorem dX11_count_5 : decode cX11_count 5 = .ok (.iconst 3, 1) := by decide +kernel
theorem dX11_count_6 : decode cX11_count 6 = .ok (.if_icmp .lt 8, 3) := by decide +kernel
theorem dX11_count_9 : decode cX11_count 9 = .ok (.bipush (-2), 2) := by decide +kernel
theorem dX11_count_11 : decode cX11_count 11 = .ok (.goto 12, 3) := by decide +kernel
theorem dX11_count_14 : decode cX11_count 14 = .ok (.aload_n 0, 1) := by decide +kernel
theorem dX11_count_15 : decode cX11_count 15 = .ok (.getfield 12, 3) := by decide +kernel
theorem dX11_count_18 : decode cX11_count 18 = .ok (.getfield 191, 3) := by decide +kernel
theorem dX11_count_21 : decode cX11_count 21 = .ok (.iload_n 1, 1) := by decide +kernel
theorem dX11_count_22 : decode cX11_count 22 = .ok (.iaload, 1) := by decide +kernel
theorem dX11_count_23 : decode cX11_count 23 = .ok (.ireturn, 1) := by decide +kernel
theorem dX11_image_0 : decode cX11_image 0 = .ok (.iload_n 1, 1) := by decide +kernel
theorem dX11_image_1 : decode cX11_image 1 = .ok (.ifCond .lt 8, 3) := by decide +kernel
theorem dX11_image_4 : decode cX11_image 4 = .ok (.iload_n 1, 1) := by decide +kernel
theorem dX11_image_5 : decode cX11_image 5 = .ok (.iconst 3, 1) := by decide +kernel
theorem dX11_image_6 : decode cX11_image 6 = .ok (.if_icmp .lt 5, 3) := by decide +kernel
theorem dX11_image_9 : decode cX11_image 9 = .ok (.iconst 0, 1) := by decide +kernel
theorem dX11_image_10 : decode cX11_image 10 = .ok (.ireturn, 1) := by decide +kernel
theorem dX11_image_11 : decode cX11_image 11 = .ok (.aload_n 0, 1) := by decide +kernel
theorem dX11_image_12 : decode cX11_image 12 = .ok (.getfield 16, 3) := by decide +kernel
theorem dX11_image_15 : decode cX11_image 15 = .ok (.iload_n 1, 1) := by decide +kernel
theorem dX11_image_16 : decode cX11_image 16 = .ok (.aaload, 1) := by decide +kernel
theorem dX11_image_17 : decode cX11_image 17 = .ok (.aload_n 0, 1) := by decide +kernel
theorem dX11_image_18 : decode cX11_image 18 = .ok (.getfield 12, 3) := by decide +kernel
theorem dX11_image_21 : decode cX11_image 21 = .ok (.invokevirtual 195, 3) := by decide +kernel
theorem dX11_image_24 : decode cX11_image 24 = .ok (.aload_n 0, 1) := by decide +kernel
theorem dX11_image_25 : decode cX11_image 25 = .ok (.getfield 20, 3) := by decide +kernel
theorem dX11_image_28 : decode cX11_image 28 = .ok (.iload_n 1, 1) := by decide +kernel
theorem dX11_image_29 : decode cX11_image 29 = .ok (.iconst 1, 1) := by decide +kernel
theorem dX11_image_30 : decode cX11_image 30 = .ok (.bastore, 1) := by decide +kernel
theorem dX11_image_31 : decode cX11_image 31 = .ok (.iconst 1, 1) := by decide +kernel
theorem dX11_image_32 : decode cX11_image 32 = .ok (.ireturn, 1) := by decide +kernel
theorem dX11_again_0 : decode cX11_again 0 = .ok (.iload_n 1, 1) := by decide +kernel
theorem dX11_again_1 : decode cX11_again 1 = .ok (.ifCond .lt 17, 3) := by decide +kernel
theorem dX11_again_4 : decode cX11_again 4 = .ok (.iload_n 1, 1) := by decide +kernel
theorem dX11_again_5 : decode cX11_again 5 = .ok (.iconst 3, 1) := by decide +kernel
theorem dX11_again_6 : decode cX11_again 6 = .ok (.if_icmp .ge 12, 3) := by decide +kernel
theorem dX11_again_9 : decode cX11_again 9 = .ok (.aload_n 0, 1) := by decide +kernel
theorem dX11_again_10 : decode cX11_again 10 = .ok (.getfield 20, 3) := by decide +kernel
theorem dX11_again_13 : decode cX11_again 13 = .ok (.iload_n 1, 1) := by decide +kernel
theorem dX11_again_14 : decode cX11_again 14 = .ok (.baload, 1) := by decide +kernel
theorem dX11_again_15 : decode cX11_again 15 = .ok (.ifCond .ne 5, 3) := by decide +kernel
theorem dX11_again_18 : decode cX11_again 18 = .ok (.iconst 0, 1) := by decide +kernel
theorem dX11_again_19 : decode cX11_again 19 = .ok (.ireturn, 1) := by decide +kernel
theorem dX11_again_20 : decode cX11_again 20 = .ok (.aload_n 0, 1) := by decide +kernel
theorem dX11_again_21 : decode cX11_again 21 = .ok (.getfield 12, 3) := by decide +kernel
theorem dX11_again_24 : decode cX11_again 24 = .ok (.aload_n 0, 1) := by decide +kernel
theorem dX11_again_25 : decode cX11_again 25 = .ok (.getfield 16, 3) := by decide +kernel
theorem dX11_again_28 : decode cX11_again 28 = .ok (.iload_n 1, 1) := by decide +kernel
theorem dX11_again_29 : decode cX11_again 29 = .ok (.aaload, 1) := by decide +kernel
theorem dX11_again_30 : decode cX11_again 30 = .ok (.invokevirtual 195, 3) := by decide +kernel
theorem dX11_again_33 : decode cX11_again 33 = .ok (.iconst 1, 1) := by decide +kernel
theorem dX11_again_34 : decode cX11_again 34 = .ok (.ireturn, 1) := by decide +kernel
theorem dX11_begins_0 : decode cX11_begins 0 = .ok (.aload_n 0, 1) := by decide +kernel
theorem dX11_begins_1 : decode cX11_begins 1 = .ok (.getfield 12, 3) := by decide +kernel
theorem dX11_begins_4 : decode cX11_begins 4 = .ok (.iconst 0, 1) := by decide +kernel
theorem dX11_begins_5 : decode cX11_begins 5 = .ok (.iload_n 1, 1) := by decide +kernel
theorem dX11_begins_6 : decode cX11_begins 6 = .ok (.invokevirtual 105, 3) := by decide +kernel
theorem dX11_begins_9 : decode cX11_begins 9 = .ok (.ifCond .eq 15, 3) := by decide +kernel
theorem dX11_begins_12 : decode cX11_begins 12 = .ok (.aload_n 0, 1) := by decide +kernel
theorem dX11_begins_13 : decode cX11_begins 13 = .ok (.getfield 12, 3) := by decide +kernel
theorem dX11_begins_16 : decode cX11_begins 16 = .ok (.iconst 1, 1) := by decide +kernel
theorem dX11_begins_17 : decode cX11_begins 17 = .ok (.iload_n 2, 1) := by decide +kernel
theorem dX11_begins_18 : decode cX11_begins 18 = .ok (.invokevirtual 105, 3) := by decide +kernel
theorem dX11_begins_21 : decode cX11_begins 21 = .ok (.ifCond .ne 5, 3) := by decide +kernel
theorem dX11_begins_24 : decode cX11_begins 24 = .ok (.iconst 0, 1) := by decide +kernel
theorem dX11_begins_25 : decode cX11_begins 25 = .ok (.ireturn, 1) := by decide +kernel
theorem dX11_begins_26 : decode cX11_begins 26 = .ok (.aload_n 0, 1) := by decide +kernel
theorem dX11_begins_27 : decode cX11_begins 27 = .ok (.getfield 34, 3) := by decide +kernel
theorem dX11_begins_30 : decode cX11_begins 30 = .ok (.aload_n 0, 1) := by decide +kernel
theorem dX11_begins_31 : decode cX11_begins 31 = .ok (.getfield 12, 3) := by decide +kernel
theorem dX11_begins_34 : decode cX11_begins 34 = .ok (.iload_n 1, 1) := by decide +kernel
theorem dX11_begins_35 : decode cX11_begins 35 = .ok (.invokevirtual 184, 3) := by decide +kernel
theorem dX11_begins_38 : decode cX11_begins 38 = .ok (.iconst 1, 1) := by decide +kernel
theorem dX11_begins_39 : decode cX11_begins 39 = .ok (.ireturn, 1) := by decide +kernel
theorem dX11_reaches_0 : decode cX11_reaches 0 = .ok (.iload_n 3, 1) := by decide +kernel
theorem dX11_reaches_1 : decode cX11_reaches 1 = .ok (.ifCond .lt 18, 3) := by decide +kernel
theorem dX11_reaches_4 : decode cX11_reaches 4 = .ok (.iload_n 3, 1) := by decide +kernel
theorem dX11_reaches_5 : decode cX11_reaches 5 = .ok (.bipush 40, 2) := by decide +kernel
theorem dX11_reaches_7 : decode cX11_reaches 7 = .ok (.if_icmp .gt 12, 3) := by decide +kernel
theorem dX11_reaches_10 : decode cX11_reaches 10 = .ok (.aload_n 0, 1) := by decide +kernel
theorem dX11_reaches_11 : decode cX11_reaches 11 = .ok (.iload_n 1, 1) := by decide +kernel
theorem dX11_reaches_12 : decode cX11_reaches 12 = .ok (.iload_n 2, 1) := by decide +kernel
theorem dX11_reaches_13 : decode cX11_reaches 13 = .ok (.invokevirtual 116, 3) := by decide +kernel
theorem dX11_reaches_16 : decode cX11_reaches 16 = .ok (.ifCond .ne 5, 3) := by decide +kernel
theorem dX11_reaches_19 : decode cX11_reaches 19 = .ok (.iconst 0, 1) := by decide +kernel
theorem dX11_reaches_20 : decode cX11_reaches 20 = .ok (.ireturn, 1) := by decide +kernel
theorem dX11_reaches_21 : decode cX11_reaches 21 = .ok (.aload_n 0, 1) := by decide +kernel
theorem dX11_reaches_22 : decode cX11_reaches 22 = .ok (.getfield 34, 3) := by decide +kernel
theorem dX11_reaches_25 : decode cX11_reaches 25 = .ok (.aload_n 0, 1) := by decide +kernel
theorem dX11_reaches_26 : decode cX11_reaches 26 = .ok (.getfield 12, 3) := by decide +kernel
theorem dX11_reaches_29 : decode cX11_reaches 29 = .ok (.iload_n 2, 1) := by decide +kernel
theorem dX11_reaches_30 : decode cX11_reaches 30 = .ok (.iload_n 3, 1) := by decide +kernel
theorem dX11_reaches_31 : decode cX11_reaches 31 = .ok (.invokevirtual 119, 3) := by decide +kernel
theorem dX11_reaches_34 : decode cX11_reaches 34 = .ok (.iload_n 3, 1) := by decide +kernel
theorem dX11_reaches_35 : decode cX11_reaches 35 = .ok (.if_icmp .ne 7, 3) := by decide +kernel
theorem dX11_reaches_38 : decode cX11_reaches 38 = .ok (.iconst 1, 1) := by decide +kernel
theorem dX11_reaches_39 : decode cX11_reaches 39 = .ok (.goto 4, 3) := by decide +kernel
theorem dX11_reaches_42 : decode cX11_reaches 42 = .ok (.iconst 0, 1) := by decide +kernel
theorem dX11_reaches_43 : decode cX11_reaches 43 = .ok (.ireturn, 1) := by decide +kernel
theorem dX11_tellLine_0 : decode cX11_tellLine 0 = .ok (.aload_n 0, 1) := by decide +kernel
theorem dX11_tellLine_1 : decode cX11_tellLine 1 = .ok (.getfield 12, 3) := by decide +kernel
theorem dX11_tellLine_4 : decode cX11_tellLine 4 = .ok (.iload_n 1, 1) := by decide +kernel
theorem dX11_tellLine_5 : decode cX11_tellLine 5 = .ok (.iload_n 2, 1) := by decide +kernel
theorem dX11_tellLine_6 : decode cX11_tellLine 6 = .ok (.invokevirtual 105, 3) := by decide +kernel
theorem dX11_tellLine_9 : decode cX11_tellLine 9 = .ok (.ifCond .eq 15, 3) := by decide +kernel
theorem dX11_tellLine_12 : decode cX11_tellLine 12 = .ok (.iload 4, 2) := by decide +kernel
theorem dX11_tellLine_14 : decode cX11_tellLine 14 = .ok (.ifCond .lt 10, 3) := by decide +kernel
theorem dX11_tellLine_17 : decode cX11_tellLine 17 = .ok (.iload 4, 2) := by decide +kernel
theorem dX11_tellLine_19 : decode cX11_tellLine 19 = .ok (.iload 5, 2) := by decide +kernel
theorem dX11_tellLine_21 : decode cX11_tellLine 21 = .ok (.if_icmp .le 6, 3) := by decide +kernel
theorem dX11_tellLine_24 : decode cX11_tellLine 24 = .ok (.bipush (-2), 2) := by decide +kernel
theorem dX11_tellLine_26 : decode cX11_tellLine 26 = .ok (.ireturn, 1) := by decide +kernel
theorem dX11_tellLine_27 : decode cX11_tellLine 27 = .ok (.aload_n 0, 1) := by decide +kernel
theorem dX11_tellLine_28 : decode cX11_tellLine 28 = .ok (.getfield 12, 3) := by decide +kernel
theorem dX11_tellLine_31 : decode cX11_tellLine 31 = .ok (.iload_n 1, 1) := by decide +kernel
theorem dX11_tellLine_32 : decode cX11_tellLine 32 = .ok (.iload_n 2, 1) := by decide +kernel
theorem dX11_tellLine_33 : decode cX11_tellLine 33 = .ok (.invokevirtual 199, 3) := by decide +kernel
theorem dX11_tellLine_36 : decode cX11_tellLine 36 = .ok (.istore 6, 2) := by decide +kernel
theorem dX11_tellLine_38 : decode cX11_tellLine 38 = .ok (.iload_n 3, 1) := by decide +kernel
theorem dX11_tellLine_39 : decode cX11_tellLine 39 = .ok (.iconst (-1), 1) := by decide +kernel
theorem dX11_tellLine_40 : decode cX11_tellLine 40 = .ok (.if_icmp .ne 16, 3) := by decide +kernel
theorem dX11_tellLine_43 : decode cX11_tellLine 43 = .ok (.iload 4, 2) := by decide +kernel
theorem dX11_tellLine_45 : decode cX11_tellLine 45 = .ok (.ifCond .ne 8, 3) := by decide +kernel
theorem dX11_tellLine_48 : decode cX11_tellLine 48 = .ok (.iload 6, 2) := by decide +kernel
theorem dX11_tellLine_50 : decode cX11_tellLine 50 = .ok (.goto 5, 3) := by decide +kernel
theorem dX11_tellLine_53 : decode cX11_tellLine 53 = .ok (.bipush (-2), 2) := by decide +kernel
theorem dX11_tellLine_55 : decode cX11_tellLine 55 = .ok (.ireturn, 1) := by decide +kernel
theorem dX11_tellLine_56 : decode cX11_tellLine 56 = .ok (.iload_n 3, 1) := by decide +kernel
theorem dX11_tellLine_57 : decode cX11_tellLine 57 = .ok (.ifCond .lt 9, 3) := by decide +kernel
theorem dX11_tellLine_60 : decode cX11_tellLine 60 = .ok (.iload_n 3, 1) := by decide +kernel
theorem dX11_tellLine_61 : decode cX11_tellLine 61 = .ok (.iload 6, 2) := by decide +kernel
theorem dX11_tellLine_63 : decode cX11_tellLine 63 = .ok (.if_icmp .lt 8, 3) := by decide +kernel
theorem dX11_tellLine_66 : decode cX11_tellLine 66 = .ok (.bipush (-2), 2) := by decide +kernel
theorem dX11_tellLine_68 : decode cX11_tellLine 68 = .ok (.goto 15, 3) := by decide +kernel
theorem dX11_tellLine_71 : decode cX11_tellLine 71 = .ok (.aload_n 0, 1) := by decide +kernel
theorem dX11_tellLine_72 : decode cX11_tellLine 72 = .ok (.getfield 12, 3) := by decide +kernel
theorem dX11_tellLine_75 : decode cX11_tellLine 75 = .ok (.iload_n 1, 1) := by decide +kernel
theorem dX11_tellLine_76 : decode cX11_tellLine 76 = .ok (.iload_n 2, 1) := by decide +kernel
theorem dX11_tellLine_77 : decode cX11_tellLine 77 = .ok (.iload_n 3, 1) := by decide +kernel
theorem dX11_tellLine_78 : decode cX11_tellLine 78 = .ok (.iload 4, 2) := by decide +kernel
theorem dX11_tellLine_80 : decode cX11_tellLine 80 = .ok (.invokevirtual 202, 3) := by decide +kernel
theorem dX11_tellLine_83 : decode cX11_tellLine 83 = .ok (.ireturn, 1) := by decide +kernel
theorem dX11_firstFrom_0 : decode cX11_firstFrom 0 = .ok (.iload_n 1, 1) := by decide +kernel
theorem dX11_firstFrom_1 : decode cX11_firstFrom 1 = .ok (.istore_n 3, 1) := by decide +kernel
theorem dX11_firstFrom_2 : decode cX11_firstFrom 2 = .ok (.iconst 0, 1) := by decide +kernel
theorem dX11_firstFrom_3 : decode cX11_firstFrom 3 = .ok (.istore 4, 2) := by decide +kernel
theorem dX11_firstFrom_5 : decode cX11_firstFrom 5 = .ok (.iload 4, 2) := by decide +kernel
theorem dX11_firstFrom_7 : decode cX11_firstFrom 7 = .ok (.iload_n 2, 1) := by decide +kernel
theorem dX11_firstFrom_8 : decode cX11_firstFrom 8 = .ok (.if_icmp .ge 34, 3) := by decide +kernel
theorem dX11_firstFrom_11 : decode cX11_firstFrom 11 = .ok (.iload_n 0, 1) := by decide +kernel
theorem dX11_firstFrom_12 : decode cX11_firstFrom 12 = .ok (.iload_n 3, 1) := by decide +kernel
theorem dX11_firstFrom_13 : decode cX11_firstFrom 13 = .ok (.ishr, 1) := by decide +kernel
theorem dX11_firstFrom_14 : decode cX11_firstFrom 14 = .ok (.iconst 1, 1) := by decide +kernel
theorem dX11_firstFrom_15 : decode cX11_firstFrom 15 = .ok (.iand, 1) := by decide +kernel
theorem dX11_firstFrom_16 : decode cX11_firstFrom 16 = .ok (.ifCond .eq 5, 3) := by decide +kernel
theorem dX11_firstFrom_19 : decode cX11_firstFrom 19 = .ok (.iload_n 3, 1) := by decide +kernel
theorem dX11_firstFrom_20 : decode cX11_firstFrom 20 = .ok (.ireturn, 1) := by decide +kernel
theorem dX11_firstFrom_21 : decode cX11_firstFrom 21 = .ok (.iload_n 3, 1) := by decide +kernel
theorem dX11_firstFrom_22 : decode cX11_firstFrom 22 = .ok (.iconst 1, 1) := by decide +kernel
theorem dX11_firstFrom_23 : decode cX11_firstFrom 23 = .ok (.iadd, 1) := by decide +kernel
theorem dX11_firstFrom_24 : decode cX11_firstFrom 24 = .ok (.iload_n 2, 1) := by decide +kernel
theorem dX11_firstFrom_25 : decode cX11_firstFrom 25 = .ok (.if_icmp .lt 7, 3) := by decide +kernel
theorem dX11_firstFrom_28 : decode cX11_firstFrom 28 = .ok (.iconst 0, 1) := by decide +kernel
theorem dX11_firstFrom_29 : decode cX11_firstFrom 29 = .ok (.goto 6, 3) := by decide +kernel
theorem dX11_firstFrom_32 : decode cX11_firstFrom 32 = .ok (.iload_n 3, 1) := by decide +kernel
theorem dX11_firstFrom_33 : decode cX11_firstFrom 33 = .ok (.iconst 1, 1) := by decide +kernel
theorem dX11_firstFrom_34 : decode cX11_firstFrom 34 = .ok (.iadd, 1) := by decide +kernel
theorem dX11_firstFrom_35 : decode cX11_firstFrom 35 = .ok (.istore_n 3, 1) := by decide +kernel
theorem dX11_firstFrom_36 : decode cX11_firstFrom 36 = .ok (.iinc 4 1, 3) := by decide +kernel
theorem dX11_firstFrom_39 : decode cX11_firstFrom 39 = .ok (.goto (-34), 3) := by decide +kernel
theorem dX11_firstFrom_42 : decode cX11_firstFrom 42 = .ok (.iconst (-1), 1) := by decide +kernel
theorem dX11_firstFrom_43 : decode cX11_firstFrom 43 = .ok (.ireturn, 1) := by decide +kernel
theorem dX11_holds_0 : decode cX11_holds 0 = .ok (.iload_n 0, 1) := by decide +kernel
theorem dX11_holds_1 : decode cX11_holds 1 = .ok (.iload_n 1, 1) := by decide +kernel
theorem dX11_holds_2 : decode cX11_holds 2 = .ok (.ishr, 1) := by decide +kernel
theorem dX11_holds_3 : decode cX11_holds 3 = .ok (.iconst 1, 1) := by decide +kernel
theorem dX11_holds_4 : decode cX11_holds 4 = .ok (.iand, 1) := by decide +kernel
theorem dX11_holds_5 : decode cX11_holds 5 = .ok (.ifCond .eq 7, 3) := by decide +kernel
theorem dX11_holds_8 : decode cX11_holds 8 = .ok (.iconst 1, 1) := by decide +kernel
theorem dX11_holds_9 : decode cX11_holds 9 = .ok (.goto 4, 3) := by decide +kernel
theorem dX11_holds_12 : decode cX11_holds 12 = .ok (.iconst 0, 1) := by decide +kernel
theorem dX11_holds_13 : decode cX11_holds 13 = .ok (.ireturn, 1) := by decide +kernel
theorem dX11_next_0 : decode cX11_next 0 = .ok (.iload_n 0, 1) := by decide +kernel
theorem dX11_next_1 : decode cX11_next 1 = .ok (.iconst 1, 1) := by decide +kernel
theorem dX11_next_2 : decode cX11_next 2 = .ok (.iadd, 1) := by decide +kernel
theorem dX11_next_3 : decode cX11_next 3 = .ok (.iload_n 1, 1) := by decide +kernel
theorem dX11_next_4 : decode cX11_next 4 = .ok (.if_icmp .lt 7, 3) := by decide +kernel
theorem dX11_next_7 : decode cX11_next 7 = .ok (.iconst 0, 1) := by decide +kernel
theorem dX11_next_8 : decode cX11_next 8 = .ok (.goto 6, 3) := by decide +kernel
theorem dX11_next_11 : decode cX11_next 11 = .ok (.iload_n 0, 1) := by decide +kernel
theorem dX11_next_12 : decode cX11_next 12 = .ok (.iconst 1, 1) := by decide +kernel
theorem dX11_next_13 : decode cX11_next 13 = .ok (.iadd, 1) := by decide +kernel
theorem dX11_next_14 : decode cX11_next 14 = .ok (.ireturn, 1) := by decide +kernel
theorem dX12_isIn_0 : decode cX12_isIn 0 = .ok (.iload_n 0, 1) := by decide +kernel
theorem dX12_isIn_1 : decode cX12_isIn 1 = .ok (.iload_n 1, 1) := by decide +kernel
theorem dX12_isIn_2 : decode cX12_isIn 2 = .ok (.if_icmp .lt 12, 3) := by decide +kernel
theorem dX12_isIn_5 : decode cX12_isIn 5 = .ok (.iload_n 0, 1) := by decide +kernel
theorem dX12_isIn_6 : decode cX12_isIn 6 = .ok (.iload_n 2, 1) := by decide +kernel
theorem dX12_isIn_7 : decode cX12_isIn 7 = .ok (.if_icmp .gt 7, 3) := by decide +kernel
theorem dX12_isIn_10 : decode cX12_isIn 10 = .ok (.iconst 1, 1) := by decide +kernel
theorem dX12_isIn_11 : decode cX12_isIn 11 = .ok (.goto 4, 3) := by decide +kernel
theorem dX12_isIn_14 : decode cX12_isIn 14 = .ok (.iconst 0, 1) := by decide +kernel
theorem dX12_isIn_15 : decode cX12_isIn 15 = .ok (.ireturn, 1) := by decide +kernel
theorem dX12_feed_0 : decode cX12_feed 0 = .ok (.aload_n 0, 1) := by decide +kernel
theorem dX12_feed_1 : decode cX12_feed 1 = .ok (.getfield 7, 3) := by decide +kernel
theorem dX12_feed_4 : decode cX12_feed 4 = .ok (.iconst 4, 1) := by decide +kernel
theorem dX12_feed_5 : decode cX12_feed 5 = .ok (.iaload, 1) := by decide +kernel
theorem dX12_feed_6 : decode cX12_feed 6 = .ok (.bipush 20, 2) := by decide +kernel
theorem dX12_feed_8 : decode cX12_feed 8 = .ok (.iadd, 1) := by decide +kernel
theorem dX12_feed_9 : decode cX12_feed 9 = .ok (.sipush 600, 3) := by decide +kernel
theorem dX12_feed_12 : decode cX12_feed 12 = .ok (.if_icmp .le 5, 3) := by decide +kernel
theorem dX12_feed_15 : decode cX12_feed 15 = .ok (.iconst (-1), 1) := by decide +kernel
theorem dX12_feed_16 : decode cX12_feed 16 = .ok (.ireturn, 1) := by decide +kernel
theorem dX12_feed_17 : decode cX12_feed 17 = .ok (.iconst 0, 1) := by decide +kernel
theorem dX12_feed_18 : decode cX12_feed 18 = .ok (.istore 6, 2) := by decide +kernel
theorem dX12_feed_20 : decode cX12_feed 20 = .ok (.iload 6, 2) := by decide +kernel
theorem dX12_feed_22 : decode cX12_feed 22 = .ok (.bipush 20, 2) := by decide +kernel
theorem dX12_feed_24 : decode cX12_feed 24 = .ok (.if_icmp .ge 98, 3) := by decide +kernel
theorem dX12_feed_27 : decode cX12_feed 27 = .ok (.iload 6, 2) := by decide +kernel
theorem dX12_feed_29 : decode cX12_feed 29 = .ok (.iconst 4, 1) := by decide +kernel
theorem dX12_feed_30 : decode cX12_feed 30 = .ok (.if_icmp .ge 7, 3) := by decide +kernel
theorem dX12_feed_33 : decode cX12_feed 33 = .ok (.iload_n 1, 1) := by decide +kernel
theorem dX12_feed_34 : decode cX12_feed 34 = .ok (.goto 39, 3) := by decide +kernel
theorem dX12_feed_37 : decode cX12_feed 37 = .ok (.iload 6, 2) := by decide +kernel
theorem dX12_feed_39 : decode cX12_feed 39 = .ok (.bipush 8, 2) := by decide +kernel
theorem dX12_feed_41 : decode cX12_feed 41 = .ok (.if_icmp .ge 7, 3) := by decide +kernel
theorem dX12_feed_44 : decode cX12_feed 44 = .ok (.iload_n 2, 1) := by decide +kernel
theorem dX12_feed_45 : decode cX12_feed 45 = .ok (.goto 28, 3) := by decide +kernel
theorem dX12_feed_48 : decode cX12_feed 48 = .ok (.iload 6, 2) := by decide +kernel
theorem dX12_feed_50 : decode cX12_feed 50 = .ok (.bipush 12, 2) := by decide +kernel
theorem dX12_feed_52 : decode cX12_feed 52 = .ok (.if_icmp .ge 7, 3) := by decide +kernel
theorem dX12_feed_55 : decode cX12_feed 55 = .ok (.iload_n 3, 1) := by decide +kernel
theorem dX12_feed_56 : decode cX12_feed 56 = .ok (.goto 17, 3) := by decide +kernel
theorem dX12_feed_59 : decode cX12_feed 59 = .ok (.iload 6, 2) := by decide +kernel
theorem dX12_feed_61 : decode cX12_feed 61 = .ok (.bipush 16, 2) := by decide +kernel
theorem dX12_feed_63 : decode cX12_feed 63 = .ok (.if_icmp .ge 8, 3) := by decide +kernel
theorem dX12_feed_66 : decode cX12_feed 66 = .ok (.iload 4, 2) := by decide +kernel
theorem dX12_feed_68 : decode cX12_feed 68 = .ok (.goto 5, 3) := by decide +kernel
theorem dX12_feed_71 : decode cX12_feed 71 = .ok (.iload 5, 2) := by decide +kernel
theorem dX12_feed_73 : decode cX12_feed 73 = .ok (.istore 7, 2) := by decide +kernel
theorem dX12_feed_75 : decode cX12_feed 75 = .ok (.aload_n 0, 1) := by decide +kernel
theorem dX12_feed_76 : decode cX12_feed 76 = .ok (.getfield 7, 3) := by decide +kernel
theorem dX12_feed_79 : decode cX12_feed 79 = .ok (.bipush 10, 2) := by decide +kernel
theorem dX12_feed_81 : decode cX12_feed 81 = .ok (.aload_n 0, 1) := by decide +kernel
theorem dX12_feed_82 : decode cX12_feed 82 = .ok (.getfield 7, 3) := by decide +kernel
theorem dX12_feed_85 : decode cX12_feed 85 = .ok (.iconst 4, 1) := by decide +kernel
theorem dX12_feed_86 : decode cX12_feed 86 = .ok (.iaload, 1) := by decide +kernel
theorem dX12_feed_87 : decode cX12_feed 87 = .ok (.iadd, 1) := by decide +kernel
theorem dX12_feed_88 : decode cX12_feed 88 = .ok (.iload 7, 2) := by decide +kernel
theorem dX12_feed_90 : decode cX12_feed 90 = .ok (.bipush 24, 2) := by decide +kernel
theorem dX12_feed_92 : decode cX12_feed 92 = .ok (.bipush 8, 2) := by decide +kernel
theorem dX12_feed_94 : decode cX12_feed 94 = .ok (.iload 6, 2) := by decide +kernel
theorem dX12_feed_96 : decode cX12_feed 96 = .ok (.iconst 4, 1) := by decide +kernel
theorem dX12_feed_97 : decode cX12_feed 97 = .ok (.irem, 1) := by decide +kernel
theorem dX12_feed_98 : decode cX12_feed 98 = .ok (.imul, 1) := by decide +kernel
theorem dX12_feed_99 : decode cX12_feed 99 = .ok (.isub, 1) := by decide +kernel
theorem dX12_feed_100 : decode cX12_feed 100 = .ok (.ishr, 1) := by decide +kernel
theorem dX12_feed_101 : decode cX12_feed 101 = .ok (.sipush 255, 3) := by decide +kernel
theorem dX12_feed_104 : decode cX12_feed 104 = .ok (.iand, 1) := by decide +kernel
theorem dX12_feed_105 : decode cX12_feed 105 = .ok (.iastore, 1) := by decide +kernel
theorem dX12_feed_106 : decode cX12_feed 106 = .ok (.aload_n 0, 1) := by decide +kernel
theorem dX12_feed_107 : decode cX12_feed 107 = .ok (.getfield 7, 3) := by decide +kernel
theorem dX12_feed_110 : decode cX12_feed 110 = .ok (.iconst 4, 1) := by decide +kernel
theorem dX12_feed_111 : decode cX12_feed 111 = .ok (.dup2, 1) := by decide +kernel
theorem dX12_feed_112 : decode cX12_feed 112 = .ok (.iaload, 1) := by decide +kernel
theorem dX12_feed_113 : decode cX12_feed 113 = .ok (.iconst 1, 1) := by decide +kernel
theorem dX12_feed_114 : decode cX12_feed 114 = .ok (.iadd, 1) := by decide +kernel
theorem dX12_feed_115 : decode cX12_feed 115 = .ok (.iastore, 1) := by decide +kernel
theorem dX12_feed_116 : decode cX12_feed 116 = .ok (.iinc 6 1, 3) := by decide +kernel
theorem dX12_feed_119 : decode cX12_feed 119 = .ok (.goto (-99), 3) := by decide +kernel
theorem dX12_feed_122 : decode cX12_feed 122 = .ok (.aload_n 0, 1) := by decide +kernel
theorem dX12_feed_123 : decode cX12_feed 123 = .ok (.getfield 7, 3) := by decide +kernel
theorem dX12_feed_126 : decode cX12_feed 126 = .ok (.iconst 4, 1) := by decide +kernel
theorem dX12_feed_127 : decode cX12_feed 127 = .ok (.iaload, 1) := by decide +kernel
theorem dX12_feed_128 : decode cX12_feed 128 = .ok (.ireturn, 1) := by decide +kernel
theorem dX12_end_0 : decode cX12_end 0 = .ok (.iload_n 1, 1) := by decide +kernel
theorem dX12_end_1 : decode cX12_end 1 = .ok (.ifCond .lt 13, 3) := by decide +kernel
theorem dX12_end_4 : decode cX12_end 4 = .ok (.iload_n 1, 1) := by decide +kernel
theorem dX12_end_5 : decode cX12_end 5 = .ok (.aload_n 0, 1) := by decide +kernel
theorem dX12_end_6 : decode cX12_end 6 = .ok (.getfield 7, 3) := by decide +kernel
theorem dX12_end_9 : decode cX12_end 9 = .ok (.iconst 4, 1) := by decide +kernel
theorem dX12_end_10 : decode cX12_end 10 = .ok (.iaload, 1) := by decide +kernel
theorem dX12_end_11 : decode cX12_end 11 = .ok (.if_icmp .le 5, 3) := by decide +kernel
theorem dX12_end_14 : decode cX12_end 14 = .ok (.iconst (-1), 1) := by decide +kernel
theorem dX12_end_15 : decode cX12_end 15 = .ok (.ireturn, 1) := by decide +kernel
theorem dX12_end_16 : decode cX12_end 16 = .ok (.aload_n 0, 1) := by decide +kernel
theorem dX12_end_17 : decode cX12_end 17 = .ok (.getfield 7, 3) := by decide +kernel
theorem dX12_end_20 : decode cX12_end 20 = .ok (.iconst 4, 1) := by decide +kernel
theorem dX12_end_21 : decode cX12_end 21 = .ok (.iload_n 1, 1) := by decide +kernel
theorem dX12_end_22 : decode cX12_end 22 = .ok (.iastore, 1) := by decide +kernel
theorem dX12_end_23 : decode cX12_end 23 = .ok (.iload_n 1, 1) := by decide +kernel
theorem dX12_end_24 : decode cX12_end 24 = .ok (.ireturn, 1) := by decide +kernel
theorem dX12_byteAt_0 : decode cX12_byteAt 0 = .ok (.iload_n 1, 1) := by decide +kernel
theorem dX12_byteAt_1 : decode cX12_byteAt 1 = .ok (.aload_n 0, 1) := by decide +kernel
theorem dX12_byteAt_2 : decode cX12_byteAt 2 = .ok (.getfield 141, 3) := by decide +kernel
theorem dX12_byteAt_5 : decode cX12_byteAt 5 = .ok (.if_icmp .ge 15, 3) := by decide +kernel
theorem dX12_byteAt_8 : decode cX12_byteAt 8 = .ok (.aload_n 0, 1) := by decide +kernel
theorem dX12_byteAt_9 : decode cX12_byteAt 9 = .ok (.getfield 7, 3) := by decide +kernel
theorem dX12_byteAt_12 : decode cX12_byteAt 12 = .ok (.bipush 10, 2) := by decide +kernel
theorem dX12_byteAt_14 : decode cX12_byteAt 14 = .ok (.iload_n 1, 1) := by decide +kernel
theorem dX12_byteAt_15 : decode cX12_byteAt 15 = .ok (.iadd, 1) := by decide +kernel
theorem dX12_byteAt_16 : decode cX12_byteAt 16 = .ok (.iaload, 1) := by decide +kernel
theorem dX12_byteAt_17 : decode cX12_byteAt 17 = .ok (.goto 4, 3) := by decide +kernel
theorem dX12_byteAt_20 : decode cX12_byteAt 20 = .ok (.iconst (-1), 1) := by decide +kernel
theorem dX12_byteAt_21 : decode cX12_byteAt 21 = .ok (.ireturn, 1) := by decide +kernel
theorem dX12_isLetter_0 : decode cX12_isLetter 0 = .ok (.iload_n 0, 1) := by decide +kernel
theorem dX12_isLetter_1 : decode cX12_isLetter 1 = .ok (.bipush 97, 2) := by decide +kernel
theorem dX12_isLetter_3 : decode cX12_isLetter 3 = .ok (.if_icmp .lt 13, 3) := by decide +kernel
theorem dX12_isLetter_6 : decode cX12_isLetter 6 = .ok (.iload_n 0, 1) := by decide +kernel
theorem dX12_isLetter_7 : decode cX12_isLetter 7 = .ok (.bipush 122, 2) := by decide +kernel
theorem dX12_isLetter_9 : decode cX12_isLetter 9 = .ok (.if_icmp .gt 7, 3) := by decide +kernel
theorem dX12_isLetter_12 : decode cX12_isLetter 12 = .ok (.iconst 1, 1) := by decide +kernel
theorem dX12_isLetter_13 : decode cX12_isLetter 13 = .ok (.goto 4, 3) := by decide +kernel
theorem dX12_isLetter_16 : decode cX12_isLetter 16 = .ok (.iconst 0, 1) := by decide +kernel
theorem dX12_isLetter_17 : decode cX12_isLetter 17 = .ok (.ireturn, 1) := by decide +kernel
theorem dX12_isDigit_0 : decode cX12_isDigit 0 = .ok (.iload_n 0, 1) := by decide +kernel
theorem dX12_isDigit_1 : decode cX12_isDigit 1 = .ok (.bipush 48, 2) := by decide +kernel
theorem dX12_isDigit_3 : decode cX12_isDigit 3 = .ok (.if_icmp .lt 13, 3) := by decide +kernel
theorem dX12_isDigit_6 : decode cX12_isDigit 6 = .ok (.iload_n 0, 1) := by decide +kernel
theorem dX12_isDigit_7 : decode cX12_isDigit 7 = .ok (.bipush 57, 2) := by decide +kernel
theorem dX12_isDigit_9 : decode cX12_isDigit 9 = .ok (.if_icmp .gt 7, 3) := by decide +kernel
theorem dX12_isDigit_12 : decode cX12_isDigit 12 = .ok (.iconst 1, 1) := by decide +kernel
theorem dX12_isDigit_13 : decode cX12_isDigit 13 = .ok (.goto 4, 3) := by decide +kernel
theorem dX12_isDigit_16 : decode cX12_isDigit 16 = .ok (.iconst 0, 1) := by decide +kernel
theorem dX12_isDigit_17 : decode cX12_isDigit 17 = .ok (.ireturn, 1) := by decide +kernel
theorem dX12_four_0 : decode cX12_four 0 = .ok (.iload_n 0, 1) := by decide +kernel
theorem dX12_four_1 : decode cX12_four 1 = .ok (.bipush 32, 2) := by decide +kernel
theorem dX12_four_3 : decode cX12_four 3 = .ok (.imul, 1) := by decide +kernel
theorem dX12_four_4 : decode cX12_four 4 = .ok (.iload_n 1, 1) := by decide +kernel
theorem dX12_four_5 : decode cX12_four 5 = .ok (.iadd, 1) := by decide +kernel
theorem dX12_four_6 : decode cX12_four 6 = .ok (.bipush 32, 2) := by decide +kernel
theorem dX12_four_8 : decode cX12_four 8 = .ok (.imul, 1) := by decide +kernel
theorem dX12_four_9 : decode cX12_four 9 = .ok (.iload_n 2, 1) := by decide +kernel
theorem dX12_four_10 : decode cX12_four 10 = .ok (.iadd, 1) := by decide +kernel
theorem dX12_four_11 : decode cX12_four 11 = .ok (.bipush 32, 2) := by decide +kernel
theorem dX12_four_13 : decode cX12_four 13 = .ok (.imul, 1) := by decide +kernel
theorem dX12_four_14 : decode cX12_four 14 = .ok (.iload_n 3, 1) := by decide +kernel
theorem dX12_four_15 : decode cX12_four 15 = .ok (.iadd, 1) := by decide +kernel
theorem dX12_four_16 : decode cX12_four 16 = .ok (.i2l, 1) := by decide +kernel
theorem dX12_four_17 : decode cX12_four 17 = .ok (.lreturn, 1) := by decide +kernel
theorem dX12_eight_0 : decode cX12_eight 0 = .ok (.iload_n 0, 1) := by decide +kernel
theorem dX12_eight_1 : decode cX12_eight 1 = .ok (.iload_n 1, 1) := by decide +kernel
theorem dX12_eight_2 : decode cX12_eight 2 = .ok (.iload_n 2, 1) := by decide +kernel
theorem dX12_eight_3 : decode cX12_eight 3 = .ok (.iload_n 3, 1) := by decide +kernel
theorem dX12_eight_4 : decode cX12_eight 4 = .ok (.invokestatic 145, 3) := by decide +kernel
theorem dX12_eight_7 : decode cX12_eight 7 = .ok (.ldc2_w 149, 3) := by decide +kernel
theorem dX12_eight_10 : decode cX12_eight 10 = .ok (.lmul, 1) := by decide +kernel
theorem dX12_eight_11 : decode cX12_eight 11 = .ok (.iload 4, 2) := by decide +kernel
theorem dX12_eight_13 : decode cX12_eight 13 = .ok (.iload 5, 2) := by decide +kernel
theorem dX12_eight_15 : decode cX12_eight 15 = .ok (.iload 6, 2) := by decide +kernel
theorem dX12_eight_17 : decode cX12_eight 17 = .ok (.iload 7, 2) := by decide +kernel
theorem dX12_eight_19 : decode cX12_eight 19 = .ok (.invokestatic 145, 3) := by decide +kernel
theorem dX12_eight_22 : decode cX12_eight 22 = .ok (.ladd, 1) := by decide +kernel
theorem dX12_eight_23 : decode cX12_eight 23 = .ok (.lreturn, 1) := by decide +kernel
theorem dX12_wordOf_0 : decode cX12_wordOf 0 = .ok (.lload_n 0, 1) := by decide +kernel
theorem dX12_wordOf_1 : decode cX12_wordOf 1 = .ok (.iconst 0, 1) := by decide +kernel
theorem dX12_wordOf_2 : decode cX12_wordOf 2 = .ok (.iconst 0, 1) := by decide +kernel
theorem dX12_wordOf_3 : decode cX12_wordOf 3 = .ok (.iconst 0, 1) := by decide +kernel
theorem dX12_wordOf_4 : decode cX12_wordOf 4 = .ok (.bipush 16, 2) := by decide +kernel
theorem dX12_wordOf_6 : decode cX12_wordOf 6 = .ok (.bipush 15, 2) := by decide +kernel
theorem dX12_wordOf_8 : decode cX12_wordOf 8 = .ok (.bipush 18, 2) := by decide +kernel
theorem dX12_wordOf_10 : decode cX12_wordOf 10 = .ok (.bipush 20, 2) := by decide +kernel
theorem dX12_wordOf_12 : decode cX12_wordOf 12 = .ok (.bipush 19, 2) := by decide +kernel
theorem dX12_wordOf_14 : decode cX12_wordOf 14 = .ok (.invokestatic 151, 3) := by decide +kernel
theorem dX12_wordOf_17 : decode cX12_wordOf 17 = .ok (.lcmp, 1) := by decide +kernel
theorem dX12_wordOf_18 : decode cX12_wordOf 18 = .ok (.ifCond .ne 5, 3) := by decide +kernel
theorem dX12_wordOf_21 : decode cX12_wordOf 21 = .ok (.iconst 1, 1) := by decide +kernel
theorem dX12_wordOf_22 : decode cX12_wordOf 22 = .ok (.ireturn, 1) := by decide +kernel
theorem dX12_wordOf_23 : decode cX12_wordOf 23 = .ok (.lload_n 0, 1) := by decide +kernel
theorem dX12_wordOf_24 : decode cX12_wordOf 24 = .ok (.iconst 0, 1) := by decide +kernel
theorem dX12_wordOf_25 : decode cX12_wordOf 25 = .ok (.iconst 0, 1) := by decide +kernel
theorem dX12_wordOf_26 : decode cX12_wordOf 26 = .ok (.bipush 18, 2) := by decide +kernel
theorem dX12_wordOf_28 : decode cX12_wordOf 28 = .ok (.bipush 15, 2) := by decide +kernel
theorem dX12_wordOf_30 : decode cX12_wordOf 30 = .ok (.bipush 21, 2) := by decide +kernel
theorem dX12_wordOf_32 : decode cX12_wordOf 32 = .ok (.bipush 14, 2) := by decide +kernel
theorem dX12_wordOf_34 : decode cX12_wordOf 34 = .ok (.iconst 4, 1) := by decide +kernel
theorem dX12_wordOf_35 : decode cX12_wordOf 35 = .ok (.bipush 19, 2) := by decide +kernel
theorem dX12_wordOf_37 : decode cX12_wordOf 37 = .ok (.invokestatic 151, 3) := by decide +kernel
theorem dX12_wordOf_40 : decode cX12_wordOf 40 = .ok (.lcmp, 1) := by decide +kernel
theorem dX12_wordOf_41 : decode cX12_wordOf 41 = .ok (.ifCond .ne 5, 3) := by decide +kernel
theorem dX12_wordOf_44 : decode cX12_wordOf 44 = .ok (.iconst 2, 1) := by decide +kernel
theorem dX12_wordOf_45 : decode cX12_wordOf 45 = .ok (.ireturn, 1) := by decide +kernel
theorem dX12_wordOf_46 : decode cX12_wordOf 46 = .ok (.lload_n 0, 1) := by decide +kernel
theorem dX12_wordOf_47 : decode cX12_wordOf 47 = .ok (.iconst 0, 1) := by decide +kernel
theorem dX12_wordOf_48 : decode cX12_wordOf 48 = .ok (.iconst 0, 1) := by decide +kernel
theorem dX12_wordOf_49 : decode cX12_wordOf 49 = .ok (.iconst 0, 1) := by decide +kernel
theorem dX12_wordOf_50 : decode cX12_wordOf 50 = .ok (.iconst 4, 1) := by decide +kernel
theorem dX12_wordOf_51 : decode cX12_wordOf 51 = .ok (.iconst 5, 1) := by decide +kernel
theorem dX12_wordOf_52 : decode cX12_wordOf 52 = .ok (.bipush 16, 2) := by decide +kernel
theorem dX12_wordOf_54 : decode cX12_wordOf 54 = .ok (.bipush 20, 2) := by decide +kernel
theorem dX12_wordOf_56 : decode cX12_wordOf 56 = .ok (.bipush 8, 2) := by decide +kernel
theorem dX12_wordOf_58 : decode cX12_wordOf 58 = .ok (.invokestatic 151, 3) := by decide +kernel
theorem dX12_wordOf_61 : decode cX12_wordOf 61 = .ok (.lcmp, 1) := by decide +kernel
theorem dX12_wordOf_62 : decode cX12_wordOf 62 = .ok (.ifCond .ne 5, 3) := by decide +kernel
theorem dX12_wordOf_65 : decode cX12_wordOf 65 = .ok (.iconst 3, 1) := by decide +kernel
theorem dX12_wordOf_66 : decode cX12_wordOf 66 = .ok (.ireturn, 1) := by decide +kernel
theorem dX12_wordOf_67 : decode cX12_wordOf 67 = .ok (.lload_n 0, 1) := by decide +kernel
theorem dX12_wordOf_68 : decode cX12_wordOf 68 = .ok (.iconst 0, 1) := by decide +kernel
theorem dX12_wordOf_69 : decode cX12_wordOf 69 = .ok (.bipush 16, 2) := by decide +kernel
theorem dX12_wordOf_71 : decode cX12_wordOf 71 = .ok (.bipush 15, 2) := by decide +kernel
theorem dX12_wordOf_73 : decode cX12_wordOf 73 = .ok (.bipush 9, 2) := by decide +kernel
theorem dX12_wordOf_75 : decode cX12_wordOf 75 = .ok (.bipush 14, 2) := by decide +kernel
theorem dX12_wordOf_77 : decode cX12_wordOf 77 = .ok (.bipush 20, 2) := by decide +kernel
theorem dX12_wordOf_79 : decode cX12_wordOf 79 = .ok (.iconst 5, 1) := by decide +kernel
theorem dX12_wordOf_80 : decode cX12_wordOf 80 = .ok (.bipush 18, 2) := by decide +kernel
theorem dX12_wordOf_82 : decode cX12_wordOf 82 = .ok (.invokestatic 151, 3) := by decide +kernel
theorem dX12_wordOf_85 : decode cX12_wordOf 85 = .ok (.lcmp, 1) := by decide +kernel
theorem dX12_wordOf_86 : decode cX12_wordOf 86 = .ok (.ifCond .ne 5, 3) := by decide +kernel
theorem dX12_wordOf_89 : decode cX12_wordOf 89 = .ok (.iconst 4, 1) := by decide +kernel
theorem dX12_wordOf_90 : decode cX12_wordOf 90 = .ok (.ireturn, 1) := by decide +kernel
theorem dX12_wordOf_91 : decode cX12_wordOf 91 = .ok (.lload_n 0, 1) := by decide +kernel
theorem dX12_wordOf_92 : decode cX12_wordOf 92 = .ok (.bipush 19, 2) := by decide +kernel
theorem dX12_wordOf_94 : decode cX12_wordOf 94 = .ok (.bipush 12, 2) := by decide +kernel
theorem dX12_wordOf_96 : decode cX12_wordOf 96 = .ok (.bipush 15, 2) := by decide +kernel
theorem dX12_wordOf_98 : decode cX12_wordOf 98 = .ok (.bipush 20, 2) := by decide +kernel
theorem dX12_wordOf_100 : decode cX12_wordOf 100 = .ok (.invokestatic 145, 3) := by decide +kernel
theorem dX12_wordOf_103 : decode cX12_wordOf 103 = .ok (.lcmp, 1) := by decide +kernel
theorem dX12_wordOf_104 : decode cX12_wordOf 104 = .ok (.ifCond .ne 5, 3) := by decide +kernel
theorem dX12_wordOf_107 : decode cX12_wordOf 107 = .ok (.iconst 5, 1) := by decide +kernel
theorem dX12_wordOf_108 : decode cX12_wordOf 108 = .ok (.ireturn, 1) := by decide +kernel
theorem dX12_wordOf_109 : decode cX12_wordOf 109 = .ok (.lload_n 0, 1) := by decide +kernel
theorem dX12_wordOf_110 : decode cX12_wordOf 110 = .ok (.bipush 9, 2) := by decide +kernel
theorem dX12_wordOf_112 : decode cX12_wordOf 112 = .ok (.iconst 4, 1) := by decide +kernel
theorem dX12_wordOf_113 : decode cX12_wordOf 113 = .ok (.bipush 12, 2) := by decide +kernel
theorem dX12_wordOf_115 : decode cX12_wordOf 115 = .ok (.iconst 5, 1) := by decide +kernel
theorem dX12_wordOf_116 : decode cX12_wordOf 116 = .ok (.invokestatic 145, 3) := by decide +kernel
theorem dX12_wordOf_119 : decode cX12_wordOf 119 = .ok (.lcmp, 1) := by decide +kernel
theorem dX12_wordOf_120 : decode cX12_wordOf 120 = .ok (.ifCond .ne 6, 3) := by decide +kernel
theorem dX12_wordOf_123 : decode cX12_wordOf 123 = .ok (.bipush 6, 2) := by decide +kernel
theorem dX12_wordOf_125 : decode cX12_wordOf 125 = .ok (.ireturn, 1) := by decide +kernel
theorem dX12_wordOf_126 : decode cX12_wordOf 126 = .ok (.lload_n 0, 1) := by decide +kernel
theorem dX12_wordOf_127 : decode cX12_wordOf 127 = .ok (.iconst 3, 1) := by decide +kernel
theorem dX12_wordOf_128 : decode cX12_wordOf 128 = .ok (.iconst 5, 1) := by decide +kernel
theorem dX12_wordOf_129 : decode cX12_wordOf 129 = .ok (.bipush 12, 2) := by decide +kernel
theorem dX12_wordOf_131 : decode cX12_wordOf 131 = .ok (.bipush 12, 2) := by decide +kernel
theorem dX12_wordOf_133 : decode cX12_wordOf 133 = .ok (.invokestatic 145, 3) := by decide +kernel
theorem dX12_wordOf_136 : decode cX12_wordOf 136 = .ok (.lcmp, 1) := by decide +kernel
theorem dX12_wordOf_137 : decode cX12_wordOf 137 = .ok (.ifCond .ne 6, 3) := by decide +kernel
theorem dX12_wordOf_140 : decode cX12_wordOf 140 = .ok (.bipush 7, 2) := by decide +kernel
theorem dX12_wordOf_142 : decode cX12_wordOf 142 = .ok (.ireturn, 1) := by decide +kernel
theorem dX12_wordOf_143 : decode cX12_wordOf 143 = .ok (.lload_n 0, 1) := by decide +kernel
theorem dX12_wordOf_144 : decode cX12_wordOf 144 = .ok (.iconst 0, 1) := by decide +kernel
theorem dX12_wordOf_145 : decode cX12_wordOf 145 = .ok (.bipush 6, 2) := by decide +kernel
theorem dX12_wordOf_147 : decode cX12_wordOf 147 = .ok (.iconst 1, 1) := by decide +kernel
theorem dX12_wordOf_148 : decode cX12_wordOf 148 = .ok (.bipush 14, 2) := by decide +kernel
theorem dX12_wordOf_150 : decode cX12_wordOf 150 = .ok (.invokestatic 145, 3) := by decide +kernel
theorem dX12_wordOf_153 : decode cX12_wordOf 153 = .ok (.lcmp, 1) := by decide +kernel
theorem dX12_wordOf_154 : decode cX12_wordOf 154 = .ok (.ifCond .ne 6, 3) := by decide +kernel
theorem dX12_wordOf_157 : decode cX12_wordOf 157 = .ok (.bipush 8, 2) := by decide +kernel
theorem dX12_wordOf_159 : decode cX12_wordOf 159 = .ok (.ireturn, 1) := by decide +kernel
theorem dX12_wordOf_160 : decode cX12_wordOf 160 = .ok (.lload_n 0, 1) := by decide +kernel
theorem dX12_wordOf_161 : decode cX12_wordOf 161 = .ok (.iconst 0, 1) := by decide +kernel
theorem dX12_wordOf_162 : decode cX12_wordOf 162 = .ok (.iconst 0, 1) := by decide +kernel
theorem dX12_wordOf_163 : decode cX12_wordOf 163 = .ok (.iconst 0, 1) := by decide +kernel
theorem dX12_wordOf_164 : decode cX12_wordOf 164 = .ok (.iconst 2, 1) := by decide +kernel
theorem dX12_wordOf_165 : decode cX12_wordOf 165 = .ok (.bipush 21, 2) := by decide +kernel
theorem dX12_wordOf_167 : decode cX12_wordOf 167 = .ok (.bipush 18, 2) := by decide +kernel
theorem dX12_wordOf_169 : decode cX12_wordOf 169 = .ok (.bipush 19, 2) := by decide +kernel
theorem dX12_wordOf_171 : decode cX12_wordOf 171 = .ok (.bipush 20, 2) := by decide +kernel
theorem dX12_wordOf_173 : decode cX12_wordOf 173 = .ok (.invokestatic 151, 3) := by decide +kernel
theorem dX12_wordOf_176 : decode cX12_wordOf 176 = .ok (.lcmp, 1) := by decide +kernel
theorem dX12_wordOf_177 : decode cX12_wordOf 177 = .ok (.ifCond .ne 6, 3) := by decide +kernel
theorem dX12_wordOf_180 : decode cX12_wordOf 180 = .ok (.bipush 9, 2) := by decide +kernel
theorem dX12_wordOf_182 : decode cX12_wordOf 182 = .ok (.ireturn, 1) := by decide +kernel
theorem dX12_wordOf_183 : decode cX12_wordOf 183 = .ok (.lload_n 0, 1) := by decide +kernel
theorem dX12_wordOf_184 : decode cX12_wordOf 184 = .ok (.iconst 0, 1) := by decide +kernel
theorem dX12_wordOf_185 : decode cX12_wordOf 185 = .ok (.iconst 0, 1) := by decide +kernel
theorem dX12_wordOf_186 : decode cX12_wordOf 186 = .ok (.iconst 0, 1) := by decide +kernel
theorem dX12_wordOf_187 : decode cX12_wordOf 187 = .ok (.bipush 13, 2) := by decide +kernel
theorem dX12_wordOf_189 : decode cX12_wordOf 189 = .ok (.iconst 1, 1) := by decide +kernel
theorem dX12_wordOf_190 : decode cX12_wordOf 190 = .ok (.bipush 20, 2) := by decide +kernel
theorem dX12_wordOf_192 : decode cX12_wordOf 192 = .ok (.iconst 3, 1) := by decide +kernel
theorem dX12_wordOf_193 : decode cX12_wordOf 193 = .ok (.bipush 8, 2) := by decide +kernel
theorem dX12_wordOf_195 : decode cX12_wordOf 195 = .ok (.invokestatic 151, 3) := by decide +kernel
theorem dX12_wordOf_198 : decode cX12_wordOf 198 = .ok (.lcmp, 1) := by decide +kernel
theorem dX12_wordOf_199 : decode cX12_wordOf 199 = .ok (.ifCond .ne 6, 3) := by decide +kernel
theorem dX12_wordOf_202 : decode cX12_wordOf 202 = .ok (.bipush 10, 2) := by decide +kernel
theorem dX12_wordOf_204 : decode cX12_wordOf 204 = .ok (.ireturn, 1) := by decide +kernel
theorem dX12_wordOf_205 : decode cX12_wordOf 205 = .ok (.lload_n 0, 1) := by decide +kernel
theorem dX12_wordOf_206 : decode cX12_wordOf 206 = .ok (.iconst 0, 1) := by decide +kernel
theorem dX12_wordOf_207 : decode cX12_wordOf 207 = .ok (.iconst 0, 1) := by decide +kernel
theorem dX12_wordOf_208 : decode cX12_wordOf 208 = .ok (.iconst 0, 1) := by decide +kernel
theorem dX12_wordOf_209 : decode cX12_wordOf 209 = .ok (.iconst 1, 1) := by decide +kernel
theorem dX12_wordOf_210 : decode cX12_wordOf 210 = .ok (.bipush 16, 2) := by decide +kernel
theorem dX12_wordOf_212 : decode cX12_wordOf 212 = .ok (.iconst 1, 1) := by decide +kernel
theorem dX12_wordOf_213 : decode cX12_wordOf 213 = .ok (.bipush 18, 2) := by decide +kernel
theorem dX12_wordOf_215 : decode cX12_wordOf 215 = .ok (.bipush 20, 2) := by decide +kernel
theorem dX12_wordOf_217 : decode cX12_wordOf 217 = .ok (.invokestatic 151, 3) := by decide +kernel
theorem dX12_wordOf_220 : decode cX12_wordOf 220 = .ok (.lcmp, 1) := by decide +kernel
theorem dX12_wordOf_221 : decode cX12_wordOf 221 = .ok (.ifCond .ne 8, 3) := by decide +kernel
theorem dX12_wordOf_224 : decode cX12_wordOf 224 = .ok (.bipush 11, 2) := by decide +kernel
theorem dX12_wordOf_226 : decode cX12_wordOf 226 = .ok (.goto 5, 3) := by decide +kernel
theorem dX12_wordOf_229 : decode cX12_wordOf 229 = .ok (.bipush 99, 2) := by decide +kernel
theorem dX12_wordOf_231 : decode cX12_wordOf 231 = .ok (.ireturn, 1) := by decide +kernel
theorem dX12_advance_0 : decode cX12_advance 0 = .ok (.aload_n 0, 1) := by decide +kernel
theorem dX12_advance_1 : decode cX12_advance 1 = .ok (.aload_n 0, 1) := by decide +kernel
theorem dX12_advance_2 : decode cX12_advance 2 = .ok (.getfield 155, 3) := by decide +kernel
theorem dX12_advance_5 : decode cX12_advance 5 = .ok (.invokevirtual 158, 3) := by decide +kernel
theorem dX12_advance_8 : decode cX12_advance 8 = .ok (.bipush 10, 2) := by decide +kernel
theorem dX12_advance_10 : decode cX12_advance 10 = .ok (.if_icmp .eq 16, 3) := by decide +kernel
theorem dX12_advance_13 : decode cX12_advance 13 = .ok (.aload_n 0, 1) := by decide +kernel
theorem dX12_advance_14 : decode cX12_advance 14 = .ok (.aload_n 0, 1) := by decide +kernel
theorem dX12_advance_15 : decode cX12_advance 15 = .ok (.getfield 155, 3) := by decide +kernel
theorem dX12_advance_18 : decode cX12_advance 18 = .ok (.invokevirtual 158, 3) := by decide +kernel
theorem dX12_advance_21 : decode cX12_advance 21 = .ok (.bipush 32, 2) := by decide +kernel
theorem dX12_advance_23 : decode cX12_advance 23 = .ok (.if_icmp .ne 16, 3) := by decide +kernel
theorem dX12_advance_26 : decode cX12_advance 26 = .ok (.aload_n 0, 1) := by decide +kernel
theorem dX12_advance_27 : decode cX12_advance 27 = .ok (.dup, 1) := by decide +kernel
theorem dX12_advance_28 : decode cX12_advance 28 = .ok (.getfield 155, 3) := by decide +kernel
theorem dX12_advance_31 : decode cX12_advance 31 = .ok (.iconst 1, 1) := by decide +kernel
theorem dX12_advance_32 : decode cX12_advance 32 = .ok (.iadd, 1) := by decide +kernel
theorem dX12_advance_33 : decode cX12_advance 33 = .ok (.putfield 155, 3) := by decide +kernel
theorem dX12_advance_36 : decode cX12_advance 36 = .ok (.goto (-36), 3) := by decide +kernel
theorem dX12_advance_39 : decode cX12_advance 39 = .ok (.aload_n 0, 1) := by decide +kernel
theorem dX12_advance_40 : decode cX12_advance 40 = .ok (.aload_n 0, 1) := by decide +kernel
theorem dX12_advance_41 : decode cX12_advance 41 = .ok (.getfield 155, 3) := by decide +kernel
theorem dX12_advance_44 : decode cX12_advance 44 = .ok (.putfield 162, 3) := by decide +kernel
theorem dX12_advance_47 : decode cX12_advance 47 = .ok (.aload_n 0, 1) := by decide +kernel
theorem dX12_advance_48 : decode cX12_advance 48 = .ok (.aload_n 0, 1) := by decide +kernel
theorem dX12_advance_49 : decode cX12_advance 49 = .ok (.getfield 155, 3) := by decide +kernel
theorem dX12_advance_52 : decode cX12_advance 52 = .ok (.invokevirtual 158, 3) := by decide +kernel
theorem dX12_advance_55 : decode cX12_advance 55 = .ok (.istore_n 1, 1) := by decide +kernel
theorem dX12_advance_56 : decode cX12_advance 56 = .ok (.iload_n 1, 1) := by decide +kernel
theorem dX12_advance_57 : decode cX12_advance 57 = .ok (.ifCond .ge 11, 3) := by decide +kernel
theorem dX12_advance_60 : decode cX12_advance 60 = .ok (.aload_n 0, 1) := by decide +kernel
theorem dX12_advance_61 : decode cX12_advance 61 = .ok (.iconst 0, 1) := by decide +kernel
theorem dX12_advance_62 : decode cX12_advance 62 = .ok (.putfield 165, 3) := by decide +kernel
theorem dX12_advance_65 : decode cX12_advance 65 = .ok (.goto 246, 3) := by decide +kernel
theorem dX12_advance_68 : decode cX12_advance 68 = .ok (.iload_n 1, 1) := by decide +kernel
theorem dX12_advance_69 : decode cX12_advance 69 = .ok (.invokestatic 168, 3) := by decide +kernel
theorem dX12_advance_72 : decode cX12_advance 72 = .ok (.ifCond .eq 114, 3) := by decide +kernel
theorem dX12_advance_75 : decode cX12_advance 75 = .ok (.lconst 0, 1) := by decide +kernel
theorem dX12_advance_76 : decode cX12_advance 76 = .ok (.lstore_n 2, 1) := by decide +kernel
theorem dX12_advance_77 : decode cX12_advance 77 = .ok (.aload_n 0, 1) := by decide +kernel
theorem dX12_advance_78 : decode cX12_advance 78 = .ok (.aload_n 0, 1) := by decide +kernel
theorem dX12_advance_79 : decode cX12_advance 79 = .ok (.getfield 155, 3) := by decide +kernel
theorem dX12_advance_82 : decode cX12_advance 82 = .ok (.invokevirtual 158, 3) := by decide +kernel
theorem dX12_advance_85 : decode cX12_advance 85 = .ok (.invokestatic 168, 3) := by decide +kernel
theorem dX12_advance_88 : decode cX12_advance 88 = .ok (.ifCond .eq 50, 3) := by decide +kernel
theorem dX12_advance_91 : decode cX12_advance 91 = .ok (.aload_n 0, 1) := by decide +kernel
theorem dX12_advance_92 : decode cX12_advance 92 = .ok (.getfield 155, 3) := by decide +kernel
theorem dX12_advance_95 : decode cX12_advance 95 = .ok (.aload_n 0, 1) := by decide +kernel
theorem dX12_advance_96 : decode cX12_advance 96 = .ok (.getfield 162, 3) := by decide +kernel
theorem dX12_advance_99 : decode cX12_advance 99 = .ok (.isub, 1) := by decide +kernel
theorem dX12_advance_100 : decode cX12_advance 100 = .ok (.bipush 8, 2) := by decide +kernel
theorem dX12_advance_102 : decode cX12_advance 102 = .ok (.if_icmp .ge 23, 3) := by decide +kernel
theorem dX12_advance_105 : decode cX12_advance 105 = .ok (.ldc2_w 172, 3) := by decide +kernel
theorem dX12_advance_108 : decode cX12_advance 108 = .ok (.lload_n 2, 1) := by decide +kernel
theorem dX12_advance_109 : decode cX12_advance 109 = .ok (.lmul, 1) := by decide +kernel
theorem dX12_advance_110 : decode cX12_advance 110 = .ok (.aload_n 0, 1) := by decide +kernel
theorem dX12_advance_111 : decode cX12_advance 111 = .ok (.aload_n 0, 1) := by decide +kernel
theorem dX12_advance_112 : decode cX12_advance 112 = .ok (.getfield 155, 3) := by decide +kernel
theorem dX12_advance_115 : decode cX12_advance 115 = .ok (.invokevirtual 158, 3) := by decide +kernel
theorem dX12_advance_118 : decode cX12_advance 118 = .ok (.i2l, 1) := by decide +kernel
theorem dX12_advance_119 : decode cX12_advance 119 = .ok (.ladd, 1) := by decide +kernel
theorem dX12_advance_120 : decode cX12_advance 120 = .ok (.ldc2_w 174, 3) := by decide +kernel
theorem dX12_advance_123 : decode cX12_advance 123 = .ok (.lsub, 1) := by decide +kernel
theorem dX12_advance_124 : decode cX12_advance 124 = .ok (.lstore_n 2, 1) := by decide +kernel
theorem dX12_advance_125 : decode cX12_advance 125 = .ok (.aload_n 0, 1) := by decide +kernel
theorem dX12_advance_126 : decode cX12_advance 126 = .ok (.dup, 1) := by decide +kernel
theorem dX12_advance_127 : decode cX12_advance 127 = .ok (.getfield 155, 3) := by decide +kernel
theorem dX12_advance_130 : decode cX12_advance 130 = .ok (.iconst 1, 1) := by decide +kernel
theorem dX12_advance_131 : decode cX12_advance 131 = .ok (.iadd, 1) := by decide +kernel
theorem dX12_advance_132 : decode cX12_advance 132 = .ok (.putfield 155, 3) := by decide +kernel
theorem dX12_advance_135 : decode cX12_advance 135 = .ok (.goto (-58), 3) := by decide +kernel
theorem dX12_advance_138 : decode cX12_advance 138 = .ok (.aload_n 0, 1) := by decide +kernel
theorem dX12_advance_139 : decode cX12_advance 139 = .ok (.aload_n 0, 1) := by decide +kernel
theorem dX12_advance_140 : decode cX12_advance 140 = .ok (.getfield 155, 3) := by decide +kernel
theorem dX12_advance_143 : decode cX12_advance 143 = .ok (.aload_n 0, 1) := by decide +kernel
theorem dX12_advance_144 : decode cX12_advance 144 = .ok (.getfield 162, 3) := by decide +kernel
theorem dX12_advance_147 : decode cX12_advance 147 = .ok (.isub, 1) := by decide +kernel
theorem dX12_advance_148 : decode cX12_advance 148 = .ok (.bipush 8, 2) := by decide +kernel
theorem dX12_advance_150 : decode cX12_advance 150 = .ok (.if_icmp .le 8, 3) := by decide +kernel
theorem dX12_advance_153 : decode cX12_advance 153 = .ok (.bipush 99, 2) := by decide +kernel
theorem dX12_advance_155 : decode cX12_advance 155 = .ok (.goto 7, 3) := by decide +kernel
theorem dX12_advance_158 : decode cX12_advance 158 = .ok (.lload_n 2, 1) := by decide +kernel
theorem dX12_advance_159 : decode cX12_advance 159 = .ok (.invokestatic 176, 3) := by decide +kernel
theorem dX12_advance_162 : decode cX12_advance 162 = .ok (.putfield 180, 3) := by decide +kernel
theorem dX12_advance_165 : decode cX12_advance 165 = .ok (.aload_n 0, 1) := by decide +kernel
theorem dX12_advance_166 : decode cX12_advance 166 = .ok (.aload_n 0, 1) := by decide +kernel
theorem dX12_advance_167 : decode cX12_advance 167 = .ok (.getfield 180, 3) := by decide +kernel
theorem dX12_advance_170 : decode cX12_advance 170 = .ok (.bipush 99, 2) := by decide +kernel
theorem dX12_advance_172 : decode cX12_advance 172 = .ok (.if_icmp .ne 7, 3) := by decide +kernel
theorem dX12_advance_175 : decode cX12_advance 175 = .ok (.iconst 4, 1) := by decide +kernel
theorem dX12_advance_176 : decode cX12_advance 176 = .ok (.goto 4, 3) := by decide +kernel
theorem dX12_advance_179 : decode cX12_advance 179 = .ok (.iconst 3, 1) := by decide +kernel
theorem dX12_advance_180 : decode cX12_advance 180 = .ok (.putfield 165, 3) := by decide +kernel
theorem dX12_advance_183 : decode cX12_advance 183 = .ok (.goto 128, 3) := by decide +kernel
theorem dX12_advance_186 : decode cX12_advance 186 = .ok (.iload_n 1, 1) := by decide +kernel
theorem dX12_advance_187 : decode cX12_advance 187 = .ok (.invokestatic 183, 3) := by decide +kernel
theorem dX12_advance_190 : decode cX12_advance 190 = .ok (.ifCond .eq 96, 3) := by decide +kernel
theorem dX12_advance_193 : decode cX12_advance 193 = .ok (.aload_n 0, 1) := by decide +kernel
theorem dX12_advance_194 : decode cX12_advance 194 = .ok (.iconst 0, 1) := by decide +kernel
theorem dX12_advance_195 : decode cX12_advance 195 = .ok (.putfield 186, 3) := by decide +kernel
theorem dX12_advance_198 : decode cX12_advance 198 = .ok (.aload_n 0, 1) := by decide +kernel
theorem dX12_advance_199 : decode cX12_advance 199 = .ok (.aload_n 0, 1) := by decide +kernel
theorem dX12_advance_200 : decode cX12_advance 200 = .ok (.getfield 155, 3) := by decide +kernel
theorem dX12_advance_203 : decode cX12_advance 203 = .ok (.invokevirtual 158, 3) := by decide +kernel
theorem dX12_advance_206 : decode cX12_advance 206 = .ok (.invokestatic 183, 3) := by decide +kernel
theorem dX12_advance_209 : decode cX12_advance 209 = .ok (.ifCond .eq 52, 3) := by decide +kernel
theorem dX12_advance_212 : decode cX12_advance 212 = .ok (.aload_n 0, 1) := by decide +kernel
theorem dX12_advance_213 : decode cX12_advance 213 = .ok (.getfield 155, 3) := by decide +kernel
theorem dX12_advance_216 : decode cX12_advance 216 = .ok (.aload_n 0, 1) := by decide +kernel
theorem dX12_advance_217 : decode cX12_advance 217 = .ok (.getfield 162, 3) := by decide +kernel
theorem dX12_advance_220 : decode cX12_advance 220 = .ok (.isub, 1) := by decide +kernel
theorem dX12_advance_221 : decode cX12_advance 221 = .ok (.iconst 2, 1) := by decide +kernel
theorem dX12_advance_222 : decode cX12_advance 222 = .ok (.if_icmp .ge 26, 3) := by decide +kernel
theorem dX12_advance_225 : decode cX12_advance 225 = .ok (.aload_n 0, 1) := by decide +kernel
theorem dX12_advance_226 : decode cX12_advance 226 = .ok (.bipush 10, 2) := by decide +kernel
theorem dX12_advance_228 : decode cX12_advance 228 = .ok (.aload_n 0, 1) := by decide +kernel
theorem dX12_advance_229 : decode cX12_advance 229 = .ok (.getfield 186, 3) := by decide +kernel
theorem dX12_advance_232 : decode cX12_advance 232 = .ok (.imul, 1) := by decide +kernel
theorem dX12_advance_233 : decode cX12_advance 233 = .ok (.aload_n 0, 1) := by decide +kernel
theorem dX12_advance_234 : decode cX12_advance 234 = .ok (.aload_n 0, 1) := by decide +kernel
theorem dX12_advance_235 : decode cX12_advance 235 = .ok (.getfield 155, 3) := by decide +kernel
theorem dX12_advance_238 : decode cX12_advance 238 = .ok (.invokevirtual 158, 3) := by decide +kernel
theorem dX12_advance_241 : decode cX12_advance 241 = .ok (.iadd, 1) := by decide +kernel
theorem dX12_advance_242 : decode cX12_advance 242 = .ok (.bipush 48, 2) := by decide +kernel
theorem dX12_advance_244 : decode cX12_advance 244 = .ok (.isub, 1) := by decide +kernel
theorem dX12_advance_245 : decode cX12_advance 245 = .ok (.putfield 186, 3) := by decide +kernel
theorem dX12_advance_248 : decode cX12_advance 248 = .ok (.aload_n 0, 1) := by decide +kernel
theorem dX12_advance_249 : decode cX12_advance 249 = .ok (.dup, 1) := by decide +kernel
theorem dX12_advance_250 : decode cX12_advance 250 = .ok (.getfield 155, 3) := by decide +kernel
theorem dX12_advance_253 : decode cX12_advance 253 = .ok (.iconst 1, 1) := by decide +kernel
theorem dX12_advance_254 : decode cX12_advance 254 = .ok (.iadd, 1) := by decide +kernel
theorem dX12_advance_255 : decode cX12_advance 255 = .ok (.putfield 155, 3) := by decide +kernel
theorem dX12_advance_258 : decode cX12_advance 258 = .ok (.goto (-60), 3) := by decide +kernel
theorem dX12_advance_261 : decode cX12_advance 261 = .ok (.aload_n 0, 1) := by decide +kernel
theorem dX12_advance_262 : decode cX12_advance 262 = .ok (.aload_n 0, 1) := by decide +kernel
theorem dX12_advance_263 : decode cX12_advance 263 = .ok (.getfield 155, 3) := by decide +kernel
theorem dX12_advance_266 : decode cX12_advance 266 = .ok (.aload_n 0, 1) := by decide +kernel
theorem dX12_advance_267 : decode cX12_advance 267 = .ok (.getfield 162, 3) := by decide +kernel
theorem dX12_advance_270 : decode cX12_advance 270 = .ok (.isub, 1) := by decide +kernel
theorem dX12_advance_271 : decode cX12_advance 271 = .ok (.iconst 2, 1) := by decide +kernel
theorem dX12_advance_272 : decode cX12_advance 272 = .ok (.if_icmp .le 7, 3) := by decide +kernel
theorem dX12_advance_275 : decode cX12_advance 275 = .ok (.iconst 4, 1) := by decide +kernel
theorem dX12_advance_276 : decode cX12_advance 276 = .ok (.goto 4, 3) := by decide +kernel
theorem dX12_advance_279 : decode cX12_advance 279 = .ok (.iconst 1, 1) := by decide +kernel
theorem dX12_advance_280 : decode cX12_advance 280 = .ok (.putfield 165, 3) := by decide +kernel
theorem dX12_advance_283 : decode cX12_advance 283 = .ok (.goto 28, 3) := by decide +kernel
theorem dX12_advance_286 : decode cX12_advance 286 = .ok (.aload_n 0, 1) := by decide +kernel
theorem dX12_advance_287 : decode cX12_advance 287 = .ok (.dup, 1) := by decide +kernel
theorem dX12_advance_288 : decode cX12_advance 288 = .ok (.getfield 155, 3) := by decide +kernel
theorem dX12_advance_291 : decode cX12_advance 291 = .ok (.iconst 1, 1) := by decide +kernel
theorem dX12_advance_292 : decode cX12_advance 292 = .ok (.iadd, 1) := by decide +kernel
theorem dX12_advance_293 : decode cX12_advance 293 = .ok (.putfield 155, 3) := by decide +kernel
theorem dX12_advance_296 : decode cX12_advance 296 = .ok (.aload_n 0, 1) := by decide +kernel
theorem dX12_advance_297 : decode cX12_advance 297 = .ok (.iload_n 1, 1) := by decide +kernel
theorem dX12_advance_298 : decode cX12_advance 298 = .ok (.bipush 59, 2) := by decide +kernel
theorem dX12_advance_300 : decode cX12_advance 300 = .ok (.if_icmp .ne 7, 3) := by decide +kernel
theorem dX12_advance_303 : decode cX12_advance 303 = .ok (.iconst 2, 1) := by decide +kernel
theorem dX12_advance_304 : decode cX12_advance 304 = .ok (.goto 4, 3) := by decide +kernel
theorem dX12_advance_307 : decode cX12_advance 307 = .ok (.iconst 4, 1) := by decide +kernel
theorem dX12_advance_308 : decode cX12_advance 308 = .ok (.putfield 165, 3) := by decide +kernel
theorem dX12_advance_311 : decode cX12_advance 311 = .ok (.return_, 1) := by decide +kernel
theorem dX12_ends_0 : decode cX12_ends 0 = .ok (.aload_n 0, 1) := by decide +kernel
theorem dX12_ends_1 : decode cX12_ends 1 = .ok (.getfield 189, 3) := by decide +kernel
theorem dX12_ends_4 : decode cX12_ends 4 = .ok (.ifCond .eq 4, 3) := by decide +kernel
theorem dX12_ends_7 : decode cX12_ends 7 = .ok (.return_, 1) := by decide +kernel
theorem dX12_ends_8 : decode cX12_ends 8 = .ok (.aload_n 0, 1) := by decide +kernel
theorem dX12_ends_9 : decode cX12_ends 9 = .ok (.iconst 1, 1) := by decide +kernel
theorem dX12_ends_10 : decode cX12_ends 10 = .ok (.putfield 189, 3) := by decide +kernel
theorem dX12_ends_13 : decode cX12_ends 13 = .ok (.aload_n 0, 1) := by decide +kernel
theorem dX12_ends_14 : decode cX12_ends 14 = .ok (.getfield 7, 3) := by decide +kernel
theorem dX12_ends_17 : decode cX12_ends 17 = .ok (.iconst 5, 1) := by decide +kernel
theorem dX12_ends_18 : decode cX12_ends 18 = .ok (.iconst 1, 1) := by decide +kernel
theorem dX12_ends_19 : decode cX12_ends 19 = .ok (.iastore, 1) := by decide +kernel
theorem dX12_ends_20 : decode cX12_ends 20 = .ok (.aload_n 0, 1) := by decide +kernel
theorem dX12_ends_21 : decode cX12_ends 21 = .ok (.getfield 7, 3) := by decide +kernel
theorem dX12_ends_24 : decode cX12_ends 24 = .ok (.bipush 6, 2) := by decide +kernel
theorem dX12_ends_26 : decode cX12_ends 26 = .ok (.aload_n 0, 1) := by decide +kernel
theorem dX12_ends_27 : decode cX12_ends 27 = .ok (.getfield 162, 3) := by decide +kernel
theorem dX12_ends_30 : decode cX12_ends 30 = .ok (.iastore, 1) := by decide +kernel
theorem dX12_ends_31 : decode cX12_ends 31 = .ok (.return_, 1) := by decide +kernel
theorem dX12_also_0 : decode cX12_also 0 = .ok (.aload_n 0, 1) := by decide +kernel
theorem dX12_also_1 : decode cX12_also 1 = .ok (.getfield 189, 3) := by decide +kernel
theorem dX12_also_4 : decode cX12_also 4 = .ok (.ifCond .ne 44, 3) := by decide +kernel
theorem dX12_also_7 : decode cX12_also 7 = .ok (.aload_n 0, 1) := by decide +kernel
theorem dX12_also_8 : decode cX12_also 8 = .ok (.getfield 7, 3) := by decide +kernel
theorem dX12_also_11 : decode cX12_also 11 = .ok (.iconst 5, 1) := by decide +kernel
theorem dX12_also_12 : decode cX12_also 12 = .ok (.iaload, 1) := by decide +kernel
theorem dX12_also_13 : decode cX12_also 13 = .ok (.ifCond .eq 36, 3) := by decide +kernel
theorem dX12_also_16 : decode cX12_also 16 = .ok (.aload_n 0, 1) := by decide +kernel
theorem dX12_also_17 : decode cX12_also 17 = .ok (.getfield 7, 3) := by decide +kernel
theorem dX12_also_20 : decode cX12_also 20 = .ok (.bipush 6, 2) := by decide +kernel
theorem dX12_also_22 : decode cX12_also 22 = .ok (.iaload, 1) := by decide +kernel
theorem dX12_also_23 : decode cX12_also 23 = .ok (.iload_n 2, 1) := by decide +kernel
theorem dX12_also_24 : decode cX12_also 24 = .ok (.if_icmp .lt 24, 3) := by decide +kernel
theorem dX12_also_27 : decode cX12_also 27 = .ok (.aload_n 0, 1) := by decide +kernel
theorem dX12_also_28 : decode cX12_also 28 = .ok (.getfield 7, 3) := by decide +kernel
theorem dX12_also_31 : decode cX12_also 31 = .ok (.bipush 6, 2) := by decide +kernel
theorem dX12_also_33 : decode cX12_also 33 = .ok (.iaload, 1) := by decide +kernel
theorem dX12_also_34 : decode cX12_also 34 = .ok (.iload_n 2, 1) := by decide +kernel
theorem dX12_also_35 : decode cX12_also 35 = .ok (.if_icmp .ne 14, 3) := by decide +kernel
theorem dX12_also_38 : decode cX12_also 38 = .ok (.aload_n 0, 1) := by decide +kernel
theorem dX12_also_39 : decode cX12_also 39 = .ok (.getfield 7, 3) := by decide +kernel
theorem dX12_also_42 : decode cX12_also 42 = .ok (.iconst 5, 1) := by decide +kernel
theorem dX12_also_43 : decode cX12_also 43 = .ok (.iaload, 1) := by decide +kernel
theorem dX12_also_44 : decode cX12_also 44 = .ok (.iload_n 1, 1) := by decide +kernel
theorem dX12_also_45 : decode cX12_also 45 = .ok (.if_icmp .gt 4, 3) := by decide +kernel
theorem dX12_also_48 : decode cX12_also 48 = .ok (.return_, 1) := by decide +kernel
theorem dX12_also_49 : decode cX12_also 49 = .ok (.aload_n 0, 1) := by decide +kernel
theorem dX12_also_50 : decode cX12_also 50 = .ok (.getfield 7, 3) := by decide +kernel
theorem dX12_also_53 : decode cX12_also 53 = .ok (.iconst 5, 1) := by decide +kernel
theorem dX12_also_54 : decode cX12_also 54 = .ok (.iload_n 1, 1) := by decide +kernel
theorem dX12_also_55 : decode cX12_also 55 = .ok (.iastore, 1) := by decide +kernel
theorem dX12_also_56 : decode cX12_also 56 = .ok (.aload_n 0, 1) := by decide +kernel
theorem dX12_also_57 : decode cX12_also 57 = .ok (.getfield 7, 3) := by decide +kernel
theorem dX12_also_60 : decode cX12_also 60 = .ok (.bipush 6, 2) := by decide +kernel
theorem dX12_also_62 : decode cX12_also 62 = .ok (.iload_n 2, 1) := by decide +kernel
theorem dX12_also_63 : decode cX12_also 63 = .ok (.iastore, 1) := by decide +kernel
theorem dX12_also_64 : decode cX12_also 64 = .ok (.return_, 1) := by decide +kernel
theorem dX12_numbered_0 : decode cX12_numbered 0 = .ok (.aload_n 0, 1) := by decide +kernel
theorem dX12_numbered_1 : decode cX12_numbered 1 = .ok (.getfield 189, 3) := by decide +kernel
theorem dX12_numbered_4 : decode cX12_numbered 4 = .ok (.ifCond .ne 11, 3) := by decide +kernel
theorem dX12_numbered_7 : decode cX12_numbered 7 = .ok (.aload_n 0, 1) := by decide +kernel
theorem dX12_numbered_8 : decode cX12_numbered 8 = .ok (.getfield 165, 3) := by decide +kernel
theorem dX12_numbered_11 : decode cX12_numbered 11 = .ok (.iconst 1, 1) := by decide +kernel
theorem dX12_numbered_12 : decode cX12_numbered 12 = .ok (.if_icmp .eq 9, 3) := by decide +kernel
theorem dX12_numbered_15 : decode cX12_numbered 15 = .ok (.aload_n 0, 1) := by decide +kernel
theorem dX12_numbered_16 : decode cX12_numbered 16 = .ok (.invokevirtual 193, 3) := by decide +kernel
theorem dX12_numbered_19 : decode cX12_numbered 19 = .ok (.iload_n 1, 1) := by decide +kernel
theorem dX12_numbered_20 : decode cX12_numbered 20 = .ok (.ireturn, 1) := by decide +kernel
theorem dX12_numbered_21 : decode cX12_numbered 21 = .ok (.aload_n 0, 1) := by decide +kernel
theorem dX12_numbered_22 : decode cX12_numbered 22 = .ok (.getfield 186, 3) := by decide +kernel
theorem dX12_numbered_25 : decode cX12_numbered 25 = .ok (.istore_n 3, 1) := by decide +kernel
theorem dX12_numbered_26 : decode cX12_numbered 26 = .ok (.iload_n 3, 1) := by decide +kernel
theorem dX12_numbered_27 : decode cX12_numbered 27 = .ok (.iload_n 1, 1) := by decide +kernel
theorem dX12_numbered_28 : decode cX12_numbered 28 = .ok (.iload_n 2, 1) := by decide +kernel
theorem dX12_numbered_29 : decode cX12_numbered 29 = .ok (.invokestatic 196, 3) := by decide +kernel
theorem dX12_numbered_32 : decode cX12_numbered 32 = .ok (.ifCond .ne 12, 3) := by decide +kernel
theorem dX12_numbered_35 : decode cX12_numbered 35 = .ok (.aload_n 0, 1) := by decide +kernel
theorem dX12_numbered_36 : decode cX12_numbered 36 = .ok (.iconst 2, 1) := by decide +kernel
theorem dX12_numbered_37 : decode cX12_numbered 37 = .ok (.aload_n 0, 1) := by decide +kernel
theorem dX12_numbered_38 : decode cX12_numbered 38 = .ok (.getfield 162, 3) := by decide +kernel
theorem dX12_numbered_41 : decode cX12_numbered 41 = .ok (.invokevirtual 200, 3) := by decide +kernel
theorem dX12_numbered_44 : decode cX12_numbered 44 = .ok (.aload_n 0, 1) := by decide +kernel
theorem dX12_numbered_45 : decode cX12_numbered 45 = .ok (.invokevirtual 204, 3) := by decide +kernel
theorem dX12_numbered_48 : decode cX12_numbered 48 = .ok (.iload_n 3, 1) := by decide +kernel
theorem dX12_numbered_49 : decode cX12_numbered 49 = .ok (.iload_n 1, 1) := by decide +kernel
theorem dX12_numbered_50 : decode cX12_numbered 50 = .ok (.iload_n 2, 1) := by decide +kernel
theorem dX12_numbered_51 : decode cX12_numbered 51 = .ok (.invokestatic 196, 3) := by decide +kernel
theorem dX12_numbered_54 : decode cX12_numbered 54 = .ok (.ifCond .eq 7, 3) := by decide +kernel
theorem dX12_numbered_57 : decode cX12_numbered 57 = .ok (.iload_n 3, 1) := by decide +kernel
theorem dX12_numbered_58 : decode cX12_numbered 58 = .ok (.goto 4, 3) := by decide +kernel
theorem dX12_numbered_61 : decode cX12_numbered 61 = .ok (.iload_n 1, 1) := by decide +kernel
theorem dX12_numbered_62 : decode cX12_numbered 62 = .ok (.ireturn, 1) := by decide +kernel
theorem dX12_wordIn_0 : decode cX12_wordIn 0 = .ok (.aload_n 0, 1) := by decide +kernel
theorem dX12_wordIn_1 : decode cX12_wordIn 1 = .ok (.getfield 189, 3) := by decide +kernel
theorem dX12_wordIn_4 : decode cX12_wordIn 4 = .ok (.ifCond .ne 23, 3) := by decide +kernel
theorem dX12_wordIn_7 : decode cX12_wordIn 7 = .ok (.aload_n 0, 1) := by decide +kernel
theorem dX12_wordIn_8 : decode cX12_wordIn 8 = .ok (.getfield 165, 3) := by decide +kernel
theorem dX12_wordIn_11 : decode cX12_wordIn 11 = .ok (.iconst 3, 1) := by decide +kernel
theorem dX12_wordIn_12 : decode cX12_wordIn 12 = .ok (.if_icmp .ne 15, 3) := by decide +kernel
theorem dX12_wordIn_15 : decode cX12_wordIn 15 = .ok (.aload_n 0, 1) := by decide +kernel
theorem dX12_wordIn_16 : decode cX12_wordIn 16 = .ok (.getfield 180, 3) := by decide +kernel
theorem dX12_wordIn_19 : decode cX12_wordIn 19 = .ok (.iload_n 1, 1) := by decide +kernel
theorem dX12_wordIn_20 : decode cX12_wordIn 20 = .ok (.iload_n 2, 1) := by decide +kernel
theorem dX12_wordIn_21 : decode cX12_wordIn 21 = .ok (.invokestatic 196, 3) := by decide +kernel
theorem dX12_wordIn_24 : decode cX12_wordIn 24 = .ok (.ifCond .ne 9, 3) := by decide +kernel
theorem dX12_wordIn_27 : decode cX12_wordIn 27 = .ok (.aload_n 0, 1) := by decide +kernel
theorem dX12_wordIn_28 : decode cX12_wordIn 28 = .ok (.invokevirtual 193, 3) := by decide +kernel
theorem dX12_wordIn_31 : decode cX12_wordIn 31 = .ok (.iconst 0, 1) := by decide +kernel
theorem dX12_wordIn_32 : decode cX12_wordIn 32 = .ok (.ireturn, 1) := by decide +kernel
theorem dX12_wordIn_33 : decode cX12_wordIn 33 = .ok (.aload_n 0, 1) := by decide +kernel
theorem dX12_wordIn_34 : decode cX12_wordIn 34 = .ok (.getfield 180, 3) := by decide +kernel
theorem dX12_wordIn_37 : decode cX12_wordIn 37 = .ok (.istore_n 3, 1) := by decide +kernel
theorem dX12_wordIn_38 : decode cX12_wordIn 38 = .ok (.aload_n 0, 1) := by decide +kernel
theorem dX12_wordIn_39 : decode cX12_wordIn 39 = .ok (.invokevirtual 204, 3) := by decide +kernel
theorem dX12_wordIn_42 : decode cX12_wordIn 42 = .ok (.iload_n 3, 1) := by decide +kernel
theorem dX12_wordIn_43 : decode cX12_wordIn 43 = .ok (.ireturn, 1) := by decide +kernel
theorem dX12_endsLine_0 : decode cX12_endsLine 0 = .ok (.aload_n 0, 1) := by decide +kernel
theorem dX12_endsLine_1 : decode cX12_endsLine 1 = .ok (.getfield 189, 3) := by decide +kernel
theorem dX12_endsLine_4 : decode cX12_endsLine 4 = .ok (.ifCond .ne 18, 3) := by decide +kernel
theorem dX12_endsLine_7 : decode cX12_endsLine 7 = .ok (.aload_n 0, 1) := by decide +kernel
theorem dX12_endsLine_8 : decode cX12_endsLine 8 = .ok (.getfield 165, 3) := by decide +kernel
theorem dX12_endsLine_11 : decode cX12_endsLine 11 = .ok (.iconst 2, 1) := by decide +kernel
theorem dX12_endsLine_12 : decode cX12_endsLine 12 = .ok (.if_icmp .ne 10, 3) := by decide +kernel
theorem dX12_endsLine_15 : decode cX12_endsLine 15 = .ok (.aload_n 0, 1) := by decide +kernel
theorem dX12_endsLine_16 : decode cX12_endsLine 16 = .ok (.invokevirtual 204, 3) := by decide +kernel
theorem dX12_endsLine_19 : decode cX12_endsLine 19 = .ok (.goto 7, 3) := by decide +kernel
theorem dX12_endsLine_22 : decode cX12_endsLine 22 = .ok (.aload_n 0, 1) := by decide +kernel
theorem dX12_endsLine_23 : decode cX12_endsLine 23 = .ok (.invokevirtual 193, 3) := by decide +kernel
theorem dX12_endsLine_26 : decode cX12_endsLine 26 = .ok (.return_, 1) := by decide +kernel
theorem dX12_crossbarLine_0 : decode cX12_crossbarLine 0 = .ok (.aload_n 0, 1) := by decide +kernel
theorem dX12_crossbarLine_1 : decode cX12_crossbarLine 1 = .ok (.iconst 1, 1) := by decide +kernel
theorem dX12_crossbarLine_2 : decode cX12_crossbarLine 2 = .ok (.iconst 4, 1) := by decide +kernel
theorem dX12_crossbarLine_3 : decode cX12_crossbarLine 3 = .ok (.invokevirtual 207, 3) := by decide +kernel
theorem dX12_crossbarLine_6 : decode cX12_crossbarLine 6 = .ok (.istore_n 1, 1) := by decide +kernel
theorem dX12_crossbarLine_7 : decode cX12_crossbarLine 7 = .ok (.aload_n 0, 1) := by decide +kernel
theorem dX12_crossbarLine_8 : decode cX12_crossbarLine 8 = .ok (.getfield 189, 3) := by decide +kernel
theorem dX12_crossbarLine_11 : decode cX12_crossbarLine 11 = .ok (.ifCond .eq 7, 3) := by decide +kernel
theorem dX12_crossbarLine_14 : decode cX12_crossbarLine 14 = .ok (.iconst 0, 1) := by decide +kernel
theorem dX12_crossbarLine_15 : decode cX12_crossbarLine 15 = .ok (.goto 4, 3) := by decide +kernel
theorem dX12_crossbarLine_18 : decode cX12_crossbarLine 18 = .ok (.iload_n 1, 1) := by decide +kernel
theorem dX12_crossbarLine_19 : decode cX12_crossbarLine 19 = .ok (.tableswitch 91 1 4 #[29, 45, 60, 76], 29) := by decide +kernel
theorem dX12_crossbarLine_48 : decode cX12_crossbarLine 48 = .ok (.aload_n 0, 1) := by decide +kernel
theorem dX12_crossbarLine_49 : decode cX12_crossbarLine 49 = .ok (.getfield 17, 3) := by decide +kernel
theorem dX12_crossbarLine_52 : decode cX12_crossbarLine 52 = .ok (.iconst 0, 1) := by decide +kernel
theorem dX12_crossbarLine_53 : decode cX12_crossbarLine 53 = .ok (.aload_n 0, 1) := by decide +kernel
theorem dX12_crossbarLine_54 : decode cX12_crossbarLine 54 = .ok (.iconst 1, 1) := by decide +kernel
theorem dX12_crossbarLine_55 : decode cX12_crossbarLine 55 = .ok (.bipush 6, 2) := by decide +kernel
theorem dX12_crossbarLine_57 : decode cX12_crossbarLine 57 = .ok (.invokevirtual 211, 3) := by decide +kernel
theorem dX12_crossbarLine_60 : decode cX12_crossbarLine 60 = .ok (.iastore, 1) := by decide +kernel
theorem dX12_crossbarLine_61 : decode cX12_crossbarLine 61 = .ok (.goto 49, 3) := by decide +kernel
theorem dX12_crossbarLine_64 : decode cX12_crossbarLine 64 = .ok (.aload_n 0, 1) := by decide +kernel
theorem dX12_crossbarLine_65 : decode cX12_crossbarLine 65 = .ok (.getfield 17, 3) := by decide +kernel
theorem dX12_crossbarLine_68 : decode cX12_crossbarLine 68 = .ok (.iconst 1, 1) := by decide +kernel
theorem dX12_crossbarLine_69 : decode cX12_crossbarLine 69 = .ok (.aload_n 0, 1) := by decide +kernel
theorem dX12_crossbarLine_70 : decode cX12_crossbarLine 70 = .ok (.iconst 1, 1) := by decide +kernel
theorem dX12_crossbarLine_71 : decode cX12_crossbarLine 71 = .ok (.iconst 4, 1) := by decide +kernel
theorem dX12_crossbarLine_72 : decode cX12_crossbarLine 72 = .ok (.invokevirtual 211, 3) := by decide +kernel
theorem dX12_crossbarLine_75 : decode cX12_crossbarLine 75 = .ok (.iastore, 1) := by decide +kernel
theorem dX12_crossbarLine_76 : decode cX12_crossbarLine 76 = .ok (.goto 34, 3) := by decide +kernel
theorem dX12_crossbarLine_79 : decode cX12_crossbarLine 79 = .ok (.aload_n 0, 1) := by decide +kernel
theorem dX12_crossbarLine_80 : decode cX12_crossbarLine 80 = .ok (.getfield 17, 3) := by decide +kernel
theorem dX12_crossbarLine_83 : decode cX12_crossbarLine 83 = .ok (.iconst 2, 1) := by decide +kernel
theorem dX12_crossbarLine_84 : decode cX12_crossbarLine 84 = .ok (.aload_n 0, 1) := by decide +kernel
theorem dX12_crossbarLine_85 : decode cX12_crossbarLine 85 = .ok (.iconst 1, 1) := by decide +kernel
theorem dX12_crossbarLine_86 : decode cX12_crossbarLine 86 = .ok (.bipush 9, 2) := by decide +kernel
theorem dX12_crossbarLine_88 : decode cX12_crossbarLine 88 = .ok (.invokevirtual 211, 3) := by decide +kernel
theorem dX12_crossbarLine_91 : decode cX12_crossbarLine 91 = .ok (.iastore, 1) := by decide +kernel
theorem dX12_crossbarLine_92 : decode cX12_crossbarLine 92 = .ok (.goto 18, 3) := by decide +kernel
theorem dX12_crossbarLine_95 : decode cX12_crossbarLine 95 = .ok (.aload_n 0, 1) := by decide +kernel
theorem dX12_crossbarLine_96 : decode cX12_crossbarLine 96 = .ok (.getfield 17, 3) := by decide +kernel
theorem dX12_crossbarLine_99 : decode cX12_crossbarLine 99 = .ok (.iconst 3, 1) := by decide +kernel
theorem dX12_crossbarLine_100 : decode cX12_crossbarLine 100 = .ok (.aload_n 0, 1) := by decide +kernel
theorem dX12_crossbarLine_101 : decode cX12_crossbarLine 101 = .ok (.iconst 0, 1) := by decide +kernel
theorem dX12_crossbarLine_102 : decode cX12_crossbarLine 102 = .ok (.iconst 5, 1) := by decide +kernel
theorem dX12_crossbarLine_103 : decode cX12_crossbarLine 103 = .ok (.invokevirtual 211, 3) := by decide +kernel
theorem dX12_crossbarLine_106 : decode cX12_crossbarLine 106 = .ok (.iastore, 1) := by decide +kernel
theorem dX12_crossbarLine_107 : decode cX12_crossbarLine 107 = .ok (.goto 3, 3) := by decide +kernel
theorem dX12_crossbarLine_110 : decode cX12_crossbarLine 110 = .ok (.aload_n 0, 1) := by decide +kernel
theorem dX12_crossbarLine_111 : decode cX12_crossbarLine 111 = .ok (.invokevirtual 214, 3) := by decide +kernel
theorem dX12_crossbarLine_114 : decode cX12_crossbarLine 114 = .ok (.return_, 1) := by decide +kernel
theorem dX12_trafficLine_0 : decode cX12_trafficLine 0 = .ok (.aload_n 0, 1) := by decide +kernel
theorem dX12_trafficLine_1 : decode cX12_trafficLine 1 = .ok (.getfield 162, 3) := by decide +kernel
theorem dX12_trafficLine_4 : decode cX12_trafficLine 4 = .ok (.istore_n 1, 1) := by decide +kernel
theorem dX12_trafficLine_5 : decode cX12_trafficLine 5 = .ok (.aload_n 0, 1) := by decide +kernel
theorem dX12_trafficLine_6 : decode cX12_trafficLine 6 = .ok (.iconst 5, 1) := by decide +kernel
theorem dX12_trafficLine_7 : decode cX12_trafficLine 7 = .ok (.bipush 9, 2) := by decide +kernel
theorem dX12_trafficLine_9 : decode cX12_trafficLine 9 = .ok (.invokevirtual 207, 3) := by decide +kernel
theorem dX12_trafficLine_12 : decode cX12_trafficLine 12 = .ok (.iconst 5, 1) := by decide +kernel
theorem dX12_trafficLine_13 : decode cX12_trafficLine 13 = .ok (.isub, 1) := by decide +kernel
theorem dX12_trafficLine_14 : decode cX12_trafficLine 14 = .ok (.istore_n 2, 1) := by decide +kernel
theorem dX12_trafficLine_15 : decode cX12_trafficLine 15 = .ok (.aload_n 0, 1) := by decide +kernel
theorem dX12_trafficLine_16 : decode cX12_trafficLine 16 = .ok (.getfield 189, 3) := by decide +kernel
theorem dX12_trafficLine_19 : decode cX12_trafficLine 19 = .ok (.ifCond .ne 20, 3) := by decide +kernel
theorem dX12_trafficLine_22 : decode cX12_trafficLine 22 = .ok (.aload_n 0, 1) := by decide +kernel
theorem dX12_trafficLine_23 : decode cX12_trafficLine 23 = .ok (.getfield 17, 3) := by decide +kernel
theorem dX12_trafficLine_26 : decode cX12_trafficLine 26 = .ok (.iconst 0, 1) := by decide +kernel
theorem dX12_trafficLine_27 : decode cX12_trafficLine 27 = .ok (.iaload, 1) := by decide +kernel
theorem dX12_trafficLine_28 : decode cX12_trafficLine 28 = .ok (.bipush 40, 2) := by decide +kernel
theorem dX12_trafficLine_30 : decode cX12_trafficLine 30 = .ok (.if_icmp .lt 9, 3) := by decide +kernel
theorem dX12_trafficLine_33 : decode cX12_trafficLine 33 = .ok (.aload_n 0, 1) := by decide +kernel
theorem dX12_trafficLine_34 : decode cX12_trafficLine 34 = .ok (.iconst 3, 1) := by decide +kernel
theorem dX12_trafficLine_35 : decode cX12_trafficLine 35 = .ok (.iload_n 1, 1) := by decide +kernel
theorem dX12_trafficLine_36 : decode cX12_trafficLine 36 = .ok (.invokevirtual 200, 3) := by decide +kernel
theorem dX12_trafficLine_39 : decode cX12_trafficLine 39 = .ok (.iload_n 2, 1) := by decide +kernel
theorem dX12_trafficLine_40 : decode cX12_trafficLine 40 = .ok (.iconst 1, 1) := by decide +kernel
theorem dX12_trafficLine_41 : decode cX12_trafficLine 41 = .ok (.if_icmp .ne 13, 3) := by decide +kernel
theorem dX12_trafficLine_44 : decode cX12_trafficLine 44 = .ok (.aload_n 0, 1) := by decide +kernel
theorem dX12_trafficLine_45 : decode cX12_trafficLine 45 = .ok (.iconst 1, 1) := by decide +kernel
theorem dX12_trafficLine_46 : decode cX12_trafficLine 46 = .ok (.bipush 9, 2) := by decide +kernel
theorem dX12_trafficLine_48 : decode cX12_trafficLine 48 = .ok (.invokevirtual 211, 3) := by decide +kernel
theorem dX12_trafficLine_51 : decode cX12_trafficLine 51 = .ok (.goto 18, 3) := by decide +kernel
theorem dX12_trafficLine_54 : decode cX12_trafficLine 54 = .ok (.iload_n 2, 1) := by decide +kernel
theorem dX12_trafficLine_55 : decode cX12_trafficLine 55 = .ok (.iconst 1, 1) := by decide +kernel
theorem dX12_trafficLine_56 : decode cX12_trafficLine 56 = .ok (.if_icmp .le 12, 3) := by decide +kernel
theorem dX12_trafficLine_59 : decode cX12_trafficLine 59 = .ok (.aload_n 0, 1) := by decide +kernel
theorem dX12_trafficLine_60 : decode cX12_trafficLine 60 = .ok (.iconst 0, 1) := by decide +kernel
theorem dX12_trafficLine_61 : decode cX12_trafficLine 61 = .ok (.iconst 5, 1) := by decide +kernel
theorem dX12_trafficLine_62 : decode cX12_trafficLine 62 = .ok (.invokevirtual 211, 3) := by decide +kernel
theorem dX12_trafficLine_65 : decode cX12_trafficLine 65 = .ok (.goto 4, 3) := by decide +kernel
theorem dX12_trafficLine_68 : decode cX12_trafficLine 68 = .ok (.iconst (-1), 1) := by decide +kernel
theorem dX12_trafficLine_69 : decode cX12_trafficLine 69 = .ok (.istore_n 3, 1) := by decide +kernel
theorem dX12_trafficLine_70 : decode cX12_trafficLine 70 = .ok (.iload_n 2, 1) := by decide +kernel
theorem dX12_trafficLine_71 : decode cX12_trafficLine 71 = .ok (.iconst 2, 1) := by decide +kernel
theorem dX12_trafficLine_72 : decode cX12_trafficLine 72 = .ok (.if_icmp .ne 12, 3) := by decide +kernel
theorem dX12_trafficLine_75 : decode cX12_trafficLine 75 = .ok (.aload_n 0, 1) := by decide +kernel
theorem dX12_trafficLine_76 : decode cX12_trafficLine 76 = .ok (.iconst 0, 1) := by decide +kernel
theorem dX12_trafficLine_77 : decode cX12_trafficLine 77 = .ok (.iconst 5, 1) := by decide +kernel
theorem dX12_trafficLine_78 : decode cX12_trafficLine 78 = .ok (.invokevirtual 211, 3) := by decide +kernel
theorem dX12_trafficLine_81 : decode cX12_trafficLine 81 = .ok (.goto 19, 3) := by decide +kernel
theorem dX12_trafficLine_84 : decode cX12_trafficLine 84 = .ok (.iload_n 2, 1) := by decide +kernel
theorem dX12_trafficLine_85 : decode cX12_trafficLine 85 = .ok (.iconst 2, 1) := by decide +kernel
theorem dX12_trafficLine_86 : decode cX12_trafficLine 86 = .ok (.if_icmp .le 13, 3) := by decide +kernel
theorem dX12_trafficLine_89 : decode cX12_trafficLine 89 = .ok (.aload_n 0, 1) := by decide +kernel
theorem dX12_trafficLine_90 : decode cX12_trafficLine 90 = .ok (.iconst 1, 1) := by decide +kernel
theorem dX12_trafficLine_91 : decode cX12_trafficLine 91 = .ok (.bipush 63, 2) := by decide +kernel
theorem dX12_trafficLine_93 : decode cX12_trafficLine 93 = .ok (.invokevirtual 211, 3) := by decide +kernel
theorem dX12_trafficLine_96 : decode cX12_trafficLine 96 = .ok (.goto 4, 3) := by decide +kernel
theorem dX12_trafficLine_99 : decode cX12_trafficLine 99 = .ok (.iconst (-1), 1) := by decide +kernel
theorem dX12_trafficLine_100 : decode cX12_trafficLine 100 = .ok (.istore 4, 2) := by decide +kernel
theorem dX12_trafficLine_102 : decode cX12_trafficLine 102 = .ok (.aload_n 0, 1) := by decide +kernel
theorem dX12_trafficLine_103 : decode cX12_trafficLine 103 = .ok (.getfield 17, 3) := by decide +kernel
theorem dX12_trafficLine_106 : decode cX12_trafficLine 106 = .ok (.iconst 0, 1) := by decide +kernel
theorem dX12_trafficLine_107 : decode cX12_trafficLine 107 = .ok (.iaload, 1) := by decide +kernel
theorem dX12_trafficLine_108 : decode cX12_trafficLine 108 = .ok (.bipush 40, 2) := by decide +kernel
theorem dX12_trafficLine_110 : decode cX12_trafficLine 110 = .ok (.if_icmp .ge 54, 3) := by decide +kernel
theorem dX12_trafficLine_113 : decode cX12_trafficLine 113 = .ok (.iconst 1, 1) := by decide +kernel
theorem dX12_trafficLine_114 : decode cX12_trafficLine 114 = .ok (.iconst 3, 1) := by decide +kernel
theorem dX12_trafficLine_115 : decode cX12_trafficLine 115 = .ok (.aload_n 0, 1) := by decide +kernel
theorem dX12_trafficLine_116 : decode cX12_trafficLine 116 = .ok (.getfield 17, 3) := by decide +kernel
theorem dX12_trafficLine_119 : decode cX12_trafficLine 119 = .ok (.iconst 0, 1) := by decide +kernel
theorem dX12_trafficLine_120 : decode cX12_trafficLine 120 = .ok (.iaload, 1) := by decide +kernel
theorem dX12_trafficLine_121 : decode cX12_trafficLine 121 = .ok (.imul, 1) := by decide +kernel
theorem dX12_trafficLine_122 : decode cX12_trafficLine 122 = .ok (.iadd, 1) := by decide +kernel
theorem dX12_trafficLine_123 : decode cX12_trafficLine 123 = .ok (.istore 5, 2) := by decide +kernel
theorem dX12_trafficLine_125 : decode cX12_trafficLine 125 = .ok (.aload_n 0, 1) := by decide +kernel
theorem dX12_trafficLine_126 : decode cX12_trafficLine 126 = .ok (.getfield 17, 3) := by decide +kernel
theorem dX12_trafficLine_129 : decode cX12_trafficLine 129 = .ok (.iload 5, 2) := by decide +kernel
theorem dX12_trafficLine_131 : decode cX12_trafficLine 131 = .ok (.iload_n 2, 1) := by decide +kernel
theorem dX12_trafficLine_132 : decode cX12_trafficLine 132 = .ok (.iastore, 1) := by decide +kernel
theorem dX12_trafficLine_133 : decode cX12_trafficLine 133 = .ok (.aload_n 0, 1) := by decide +kernel
theorem dX12_trafficLine_134 : decode cX12_trafficLine 134 = .ok (.getfield 17, 3) := by decide +kernel
theorem dX12_trafficLine_137 : decode cX12_trafficLine 137 = .ok (.iload 5, 2) := by decide +kernel
theorem dX12_trafficLine_139 : decode cX12_trafficLine 139 = .ok (.iconst 1, 1) := by decide +kernel
theorem dX12_trafficLine_140 : decode cX12_trafficLine 140 = .ok (.iadd, 1) := by decide +kernel
theorem dX12_trafficLine_141 : decode cX12_trafficLine 141 = .ok (.iload_n 3, 1) := by decide +kernel
theorem dX12_trafficLine_142 : decode cX12_trafficLine 142 = .ok (.iastore, 1) := by decide +kernel
theorem dX12_trafficLine_143 : decode cX12_trafficLine 143 = .ok (.aload_n 0, 1) := by decide +kernel
theorem dX12_trafficLine_144 : decode cX12_trafficLine 144 = .ok (.getfield 17, 3) := by decide +kernel
theorem dX12_trafficLine_147 : decode cX12_trafficLine 147 = .ok (.iload 5, 2) := by decide +kernel
theorem dX12_trafficLine_149 : decode cX12_trafficLine 149 = .ok (.iconst 2, 1) := by decide +kernel
theorem dX12_trafficLine_150 : decode cX12_trafficLine 150 = .ok (.iadd, 1) := by decide +kernel
theorem dX12_trafficLine_151 : decode cX12_trafficLine 151 = .ok (.iload 4, 2) := by decide +kernel
theorem dX12_trafficLine_153 : decode cX12_trafficLine 153 = .ok (.iastore, 1) := by decide +kernel
theorem dX12_trafficLine_154 : decode cX12_trafficLine 154 = .ok (.aload_n 0, 1) := by decide +kernel
theorem dX12_trafficLine_155 : decode cX12_trafficLine 155 = .ok (.getfield 17, 3) := by decide +kernel
theorem dX12_trafficLine_158 : decode cX12_trafficLine 158 = .ok (.iconst 0, 1) := by decide +kernel
theorem dX12_trafficLine_159 : decode cX12_trafficLine 159 = .ok (.dup2, 1) := by decide +kernel
theorem dX12_trafficLine_160 : decode cX12_trafficLine 160 = .ok (.iaload, 1) := by decide +kernel
theorem dX12_trafficLine_161 : decode cX12_trafficLine 161 = .ok (.iconst 1, 1) := by decide +kernel
theorem dX12_trafficLine_162 : decode cX12_trafficLine 162 = .ok (.iadd, 1) := by decide +kernel
theorem dX12_trafficLine_163 : decode cX12_trafficLine 163 = .ok (.iastore, 1) := by decide +kernel
theorem dX12_trafficLine_164 : decode cX12_trafficLine 164 = .ok (.aload_n 0, 1) := by decide +kernel
theorem dX12_trafficLine_165 : decode cX12_trafficLine 165 = .ok (.invokevirtual 214, 3) := by decide +kernel
theorem dX12_trafficLine_168 : decode cX12_trafficLine 168 = .ok (.return_, 1) := by decide +kernel
theorem dX12_logLine_0 : decode cX12_logLine 0 = .ok (.aload_n 0, 1) := by decide +kernel
theorem dX12_logLine_1 : decode cX12_logLine 1 = .ok (.getfield 162, 3) := by decide +kernel
theorem dX12_logLine_4 : decode cX12_logLine 4 = .ok (.istore_n 1, 1) := by decide +kernel
theorem dX12_logLine_5 : decode cX12_logLine 5 = .ok (.aload_n 0, 1) := by decide +kernel
theorem dX12_logLine_6 : decode cX12_logLine 6 = .ok (.bipush 10, 2) := by decide +kernel
theorem dX12_logLine_8 : decode cX12_logLine 8 = .ok (.bipush 11, 2) := by decide +kernel
theorem dX12_logLine_10 : decode cX12_logLine 10 = .ok (.invokevirtual 207, 3) := by decide +kernel
theorem dX12_logLine_13 : decode cX12_logLine 13 = .ok (.istore_n 2, 1) := by decide +kernel
theorem dX12_logLine_14 : decode cX12_logLine 14 = .ok (.aload_n 0, 1) := by decide +kernel
theorem dX12_logLine_15 : decode cX12_logLine 15 = .ok (.getfield 189, 3) := by decide +kernel
theorem dX12_logLine_18 : decode cX12_logLine 18 = .ok (.ifCond .ne 20, 3) := by decide +kernel
theorem dX12_logLine_21 : decode cX12_logLine 21 = .ok (.aload_n 0, 1) := by decide +kernel
theorem dX12_logLine_22 : decode cX12_logLine 22 = .ok (.getfield 17, 3) := by decide +kernel
theorem dX12_logLine_25 : decode cX12_logLine 25 = .ok (.iconst 0, 1) := by decide +kernel
theorem dX12_logLine_26 : decode cX12_logLine 26 = .ok (.iaload, 1) := by decide +kernel
theorem dX12_logLine_27 : decode cX12_logLine 27 = .ok (.bipush 8, 2) := by decide +kernel
theorem dX12_logLine_29 : decode cX12_logLine 29 = .ok (.if_icmp .lt 9, 3) := by decide +kernel
theorem dX12_logLine_32 : decode cX12_logLine 32 = .ok (.aload_n 0, 1) := by decide +kernel
theorem dX12_logLine_33 : decode cX12_logLine 33 = .ok (.iconst 3, 1) := by decide +kernel
theorem dX12_logLine_34 : decode cX12_logLine 34 = .ok (.iload_n 1, 1) := by decide +kernel
theorem dX12_logLine_35 : decode cX12_logLine 35 = .ok (.invokevirtual 200, 3) := by decide +kernel
theorem dX12_logLine_38 : decode cX12_logLine 38 = .ok (.aload_n 0, 1) := by decide +kernel
theorem dX12_logLine_39 : decode cX12_logLine 39 = .ok (.iconst 0, 1) := by decide +kernel
theorem dX12_logLine_40 : decode cX12_logLine 40 = .ok (.bipush 60, 2) := by decide +kernel
theorem dX12_logLine_42 : decode cX12_logLine 42 = .ok (.invokevirtual 211, 3) := by decide +kernel
theorem dX12_logLine_45 : decode cX12_logLine 45 = .ok (.istore_n 3, 1) := by decide +kernel
theorem dX12_logLine_46 : decode cX12_logLine 46 = .ok (.aload_n 0, 1) := by decide +kernel
theorem dX12_logLine_47 : decode cX12_logLine 47 = .ok (.iconst 0, 1) := by decide +kernel
theorem dX12_logLine_48 : decode cX12_logLine 48 = .ok (.iconst 5, 1) := by decide +kernel
theorem dX12_logLine_49 : decode cX12_logLine 49 = .ok (.invokevirtual 211, 3) := by decide +kernel
theorem dX12_logLine_52 : decode cX12_logLine 52 = .ok (.istore 4, 2) := by decide +kernel
theorem dX12_logLine_54 : decode cX12_logLine 54 = .ok (.aload_n 0, 1) := by decide +kernel
theorem dX12_logLine_55 : decode cX12_logLine 55 = .ok (.iconst 0, 1) := by decide +kernel
theorem dX12_logLine_56 : decode cX12_logLine 56 = .ok (.iconst 5, 1) := by decide +kernel
theorem dX12_logLine_57 : decode cX12_logLine 57 = .ok (.invokevirtual 211, 3) := by decide +kernel
theorem dX12_logLine_60 : decode cX12_logLine 60 = .ok (.istore 5, 2) := by decide +kernel
theorem dX12_logLine_62 : decode cX12_logLine 62 = .ok (.aload_n 0, 1) := by decide +kernel
theorem dX12_logLine_63 : decode cX12_logLine 63 = .ok (.getfield 17, 3) := by decide +kernel
theorem dX12_logLine_66 : decode cX12_logLine 66 = .ok (.iconst 0, 1) := by decide +kernel
theorem dX12_logLine_67 : decode cX12_logLine 67 = .ok (.iaload, 1) := by decide +kernel
theorem dX12_logLine_68 : decode cX12_logLine 68 = .ok (.bipush 8, 2) := by decide +kernel
theorem dX12_logLine_70 : decode cX12_logLine 70 = .ok (.if_icmp .ge 75, 3) := by decide +kernel
theorem dX12_logLine_73 : decode cX12_logLine 73 = .ok (.iconst 1, 1) := by decide +kernel
theorem dX12_logLine_74 : decode cX12_logLine 74 = .ok (.iconst 4, 1) := by decide +kernel
theorem dX12_logLine_75 : decode cX12_logLine 75 = .ok (.aload_n 0, 1) := by decide +kernel
theorem dX12_logLine_76 : decode cX12_logLine 76 = .ok (.getfield 17, 3) := by decide +kernel
theorem dX12_logLine_79 : decode cX12_logLine 79 = .ok (.iconst 0, 1) := by decide +kernel
theorem dX12_logLine_80 : decode cX12_logLine 80 = .ok (.iaload, 1) := by decide +kernel
theorem dX12_logLine_81 : decode cX12_logLine 81 = .ok (.imul, 1) := by decide +kernel
theorem dX12_logLine_82 : decode cX12_logLine 82 = .ok (.iadd, 1) := by decide +kernel
theorem dX12_logLine_83 : decode cX12_logLine 83 = .ok (.istore 6, 2) := by decide +kernel
theorem dX12_logLine_85 : decode cX12_logLine 85 = .ok (.aload_n 0, 1) := by decide +kernel
theorem dX12_logLine_86 : decode cX12_logLine 86 = .ok (.getfield 17, 3) := by decide +kernel
theorem dX12_logLine_89 : decode cX12_logLine 89 = .ok (.iload 6, 2) := by decide +kernel
theorem dX12_logLine_91 : decode cX12_logLine 91 = .ok (.iload_n 2, 1) := by decide +kernel
theorem dX12_logLine_92 : decode cX12_logLine 92 = .ok (.bipush 11, 2) := by decide +kernel
theorem dX12_logLine_94 : decode cX12_logLine 94 = .ok (.if_icmp .ne 7, 3) := by decide +kernel
theorem dX12_logLine_97 : decode cX12_logLine 97 = .ok (.iconst 0, 1) := by decide +kernel
theorem dX12_logLine_98 : decode cX12_logLine 98 = .ok (.goto 4, 3) := by decide +kernel
theorem dX12_logLine_101 : decode cX12_logLine 101 = .ok (.iconst 1, 1) := by decide +kernel
theorem dX12_logLine_102 : decode cX12_logLine 102 = .ok (.iastore, 1) := by decide +kernel
theorem dX12_logLine_103 : decode cX12_logLine 103 = .ok (.aload_n 0, 1) := by decide +kernel
theorem dX12_logLine_104 : decode cX12_logLine 104 = .ok (.getfield 17, 3) := by decide +kernel
theorem dX12_logLine_107 : decode cX12_logLine 107 = .ok (.iload 6, 2) := by decide +kernel
theorem dX12_logLine_109 : decode cX12_logLine 109 = .ok (.iconst 1, 1) := by decide +kernel
theorem dX12_logLine_110 : decode cX12_logLine 110 = .ok (.iadd, 1) := by decide +kernel
theorem dX12_logLine_111 : decode cX12_logLine 111 = .ok (.iload_n 3, 1) := by decide +kernel
theorem dX12_logLine_112 : decode cX12_logLine 112 = .ok (.iastore, 1) := by decide +kernel
theorem dX12_logLine_113 : decode cX12_logLine 113 = .ok (.aload_n 0, 1) := by decide +kernel
theorem dX12_logLine_114 : decode cX12_logLine 114 = .ok (.getfield 17, 3) := by decide +kernel
theorem dX12_logLine_117 : decode cX12_logLine 117 = .ok (.iload 6, 2) := by decide +kernel
theorem dX12_logLine_119 : decode cX12_logLine 119 = .ok (.iconst 2, 1) := by decide +kernel
theorem dX12_logLine_120 : decode cX12_logLine 120 = .ok (.iadd, 1) := by decide +kernel
theorem dX12_logLine_121 : decode cX12_logLine 121 = .ok (.iload 4, 2) := by decide +kernel
theorem dX12_logLine_123 : decode cX12_logLine 123 = .ok (.iastore, 1) := by decide +kernel
theorem dX12_logLine_124 : decode cX12_logLine 124 = .ok (.aload_n 0, 1) := by decide +kernel
theorem dX12_logLine_125 : decode cX12_logLine 125 = .ok (.getfield 17, 3) := by decide +kernel
theorem dX12_logLine_128 : decode cX12_logLine 128 = .ok (.iload 6, 2) := by decide +kernel
theorem dX12_logLine_130 : decode cX12_logLine 130 = .ok (.iconst 3, 1) := by decide +kernel
theorem dX12_logLine_131 : decode cX12_logLine 131 = .ok (.iadd, 1) := by decide +kernel
theorem dX12_logLine_132 : decode cX12_logLine 132 = .ok (.iload 5, 2) := by decide +kernel
theorem dX12_logLine_134 : decode cX12_logLine 134 = .ok (.iastore, 1) := by decide +kernel
theorem dX12_logLine_135 : decode cX12_logLine 135 = .ok (.aload_n 0, 1) := by decide +kernel
theorem dX12_logLine_136 : decode cX12_logLine 136 = .ok (.getfield 17, 3) := by decide +kernel
theorem dX12_logLine_139 : decode cX12_logLine 139 = .ok (.iconst 0, 1) := by decide +kernel
theorem dX12_logLine_140 : decode cX12_logLine 140 = .ok (.dup2, 1) := by decide +kernel
theorem dX12_logLine_141 : decode cX12_logLine 141 = .ok (.iaload, 1) := by decide +kernel
theorem dX12_logLine_142 : decode cX12_logLine 142 = .ok (.iconst 1, 1) := by decide +kernel
theorem dX12_logLine_143 : decode cX12_logLine 143 = .ok (.iadd, 1) := by decide +kernel
theorem dX12_logLine_144 : decode cX12_logLine 144 = .ok (.iastore, 1) := by decide +kernel
theorem dX12_logLine_145 : decode cX12_logLine 145 = .ok (.aload_n 0, 1) := by decide +kernel
theorem dX12_logLine_146 : decode cX12_logLine 146 = .ok (.invokevirtual 214, 3) := by decide +kernel
theorem dX12_logLine_149 : decode cX12_logLine 149 = .ok (.return_, 1) := by decide +kernel
theorem dX12_placeOf_0 : decode cX12_placeOf 0 = .ok (.iload_n 0, 1) := by decide +kernel
theorem dX12_placeOf_1 : decode cX12_placeOf 1 = .ok (.ifCond .ne 13, 3) := by decide +kernel
theorem dX12_placeOf_4 : decode cX12_placeOf 4 = .ok (.sipush 610, 3) := by decide +kernel
theorem dX12_placeOf_7 : decode cX12_placeOf 7 = .ok (.iconst 4, 1) := by decide +kernel
theorem dX12_placeOf_8 : decode cX12_placeOf 8 = .ok (.iload_n 1, 1) := by decide +kernel
theorem dX12_placeOf_9 : decode cX12_placeOf 9 = .ok (.imul, 1) := by decide +kernel
theorem dX12_placeOf_10 : decode cX12_placeOf 10 = .ok (.iadd, 1) := by decide +kernel
theorem dX12_placeOf_11 : decode cX12_placeOf 11 = .ok (.goto 27, 3) := by decide +kernel
theorem dX12_placeOf_14 : decode cX12_placeOf 14 = .ok (.iload_n 0, 1) := by decide +kernel
theorem dX12_placeOf_15 : decode cX12_placeOf 15 = .ok (.iconst 1, 1) := by decide +kernel
theorem dX12_placeOf_16 : decode cX12_placeOf 16 = .ok (.if_icmp .ne 14, 3) := by decide +kernel
theorem dX12_placeOf_19 : decode cX12_placeOf 19 = .ok (.sipush 618, 3) := by decide +kernel
theorem dX12_placeOf_22 : decode cX12_placeOf 22 = .ok (.bipush 121, 2) := by decide +kernel
theorem dX12_placeOf_24 : decode cX12_placeOf 24 = .ok (.iload_n 1, 1) := by decide +kernel
theorem dX12_placeOf_25 : decode cX12_placeOf 25 = .ok (.imul, 1) := by decide +kernel
theorem dX12_placeOf_26 : decode cX12_placeOf 26 = .ok (.iadd, 1) := by decide +kernel
theorem dX12_placeOf_27 : decode cX12_placeOf 27 = .ok (.goto 11, 3) := by decide +kernel
theorem dX12_placeOf_30 : decode cX12_placeOf 30 = .ok (.sipush 860, 3) := by decide +kernel
theorem dX12_placeOf_33 : decode cX12_placeOf 33 = .ok (.bipush 33, 2) := by decide +kernel
theorem dX12_placeOf_35 : decode cX12_placeOf 35 = .ok (.iload_n 1, 1) := by decide +kernel
theorem dX12_placeOf_36 : decode cX12_placeOf 36 = .ok (.imul, 1) := by decide +kernel
theorem dX12_placeOf_37 : decode cX12_placeOf 37 = .ok (.iadd, 1) := by decide +kernel
theorem dX12_placeOf_38 : decode cX12_placeOf 38 = .ok (.ireturn, 1) := by decide +kernel
theorem dX12_sizeOf_0 : decode cX12_sizeOf 0 = .ok (.iload_n 0, 1) := by decide +kernel
theorem dX12_sizeOf_1 : decode cX12_sizeOf 1 = .ok (.ifCond .ne 7, 3) := by decide +kernel
theorem dX12_sizeOf_4 : decode cX12_sizeOf 4 = .ok (.iconst 4, 1) := by decide +kernel
theorem dX12_sizeOf_5 : decode cX12_sizeOf 5 = .ok (.goto 15, 3) := by decide +kernel
theorem dX12_sizeOf_8 : decode cX12_sizeOf 8 = .ok (.iload_n 0, 1) := by decide +kernel
theorem dX12_sizeOf_9 : decode cX12_sizeOf 9 = .ok (.iconst 1, 1) := by decide +kernel
theorem dX12_sizeOf_10 : decode cX12_sizeOf 10 = .ok (.if_icmp .ne 8, 3) := by decide +kernel
theorem dX12_sizeOf_13 : decode cX12_sizeOf 13 = .ok (.bipush 121, 2) := by decide +kernel
theorem dX12_sizeOf_15 : decode cX12_sizeOf 15 = .ok (.goto 5, 3) := by decide +kernel
theorem dX12_sizeOf_18 : decode cX12_sizeOf 18 = .ok (.bipush 33, 2) := by decide +kernel
theorem dX12_sizeOf_20 : decode cX12_sizeOf 20 = .ok (.ireturn, 1) := by decide +kernel
theorem dX12_isOf_0 : decode cX12_isOf 0 = .ok (.iload_n 2, 1) := by decide +kernel
theorem dX12_isOf_1 : decode cX12_isOf 1 = .ok (.iconst 0, 1) := by decide +kernel
theorem dX12_isOf_2 : decode cX12_isOf 2 = .ok (.aload_n 0, 1) := by decide +kernel
theorem dX12_isOf_3 : decode cX12_isOf 3 = .ok (.getfield 7, 3) := by decide +kernel
theorem dX12_isOf_6 : decode cX12_isOf 6 = .ok (.iload_n 1, 1) := by decide +kernel
theorem dX12_isOf_7 : decode cX12_isOf 7 = .ok (.iaload, 1) := by decide +kernel
theorem dX12_isOf_8 : decode cX12_isOf 8 = .ok (.iconst 1, 1) := by decide +kernel
theorem dX12_isOf_9 : decode cX12_isOf 9 = .ok (.isub, 1) := by decide +kernel
theorem dX12_isOf_10 : decode cX12_isOf 10 = .ok (.invokestatic 196, 3) := by decide +kernel
theorem dX12_isOf_13 : decode cX12_isOf 13 = .ok (.ireturn, 1) := by decide +kernel
theorem dX12_text_0 : decode cX12_text 0 = .ok (.aload_n 0, 1) := by decide +kernel
theorem dX12_text_1 : decode cX12_text 1 = .ok (.aload_n 0, 1) := by decide +kernel
theorem dX12_text_2 : decode cX12_text 2 = .ok (.getfield 7, 3) := by decide +kernel
theorem dX12_text_5 : decode cX12_text 5 = .ok (.iconst 4, 1) := by decide +kernel
theorem dX12_text_6 : decode cX12_text 6 = .ok (.iaload, 1) := by decide +kernel
theorem dX12_text_7 : decode cX12_text 7 = .ok (.putfield 141, 3) := by decide +kernel
theorem dX12_text_10 : decode cX12_text 10 = .ok (.aload_n 0, 1) := by decide +kernel
theorem dX12_text_11 : decode cX12_text 11 = .ok (.getfield 7, 3) := by decide +kernel
theorem dX12_text_14 : decode cX12_text 14 = .ok (.iconst 4, 1) := by decide +kernel
theorem dX12_text_15 : decode cX12_text 15 = .ok (.iconst 0, 1) := by decide +kernel
theorem dX12_text_16 : decode cX12_text 16 = .ok (.iastore, 1) := by decide +kernel
theorem dX12_text_17 : decode cX12_text 17 = .ok (.aload_n 0, 1) := by decide +kernel
theorem dX12_text_18 : decode cX12_text 18 = .ok (.getfield 7, 3) := by decide +kernel
theorem dX12_text_21 : decode cX12_text 21 = .ok (.iconst 5, 1) := by decide +kernel
theorem dX12_text_22 : decode cX12_text 22 = .ok (.iconst 0, 1) := by decide +kernel
theorem dX12_text_23 : decode cX12_text 23 = .ok (.iastore, 1) := by decide +kernel
theorem dX12_text_24 : decode cX12_text 24 = .ok (.aload_n 0, 1) := by decide +kernel
theorem dX12_text_25 : decode cX12_text 25 = .ok (.getfield 7, 3) := by decide +kernel
theorem dX12_text_28 : decode cX12_text 28 = .ok (.bipush 6, 2) := by decide +kernel
theorem dX12_text_30 : decode cX12_text 30 = .ok (.iconst (-1), 1) := by decide +kernel
theorem dX12_text_31 : decode cX12_text 31 = .ok (.iastore, 1) := by decide +kernel
theorem dX12_text_32 : decode cX12_text 32 = .ok (.iload_n 1, 1) := by decide +kernel
theorem dX12_text_33 : decode cX12_text 33 = .ok (.iconst 0, 1) := by decide +kernel
theorem dX12_text_34 : decode cX12_text 34 = .ok (.iconst 2, 1) := by decide +kernel
theorem dX12_text_35 : decode cX12_text 35 = .ok (.invokestatic 196, 3) := by decide +kernel
theorem dX12_text_38 : decode cX12_text 38 = .ok (.ifCond .eq 30, 3) := by decide +kernel
theorem dX12_text_41 : decode cX12_text 41 = .ok (.iload_n 2, 1) := by decide +kernel
theorem dX12_text_42 : decode cX12_text 42 = .ok (.iconst (-1), 1) := by decide +kernel
theorem dX12_text_43 : decode cX12_text 43 = .ok (.if_icmp .ne 16, 3) := by decide +kernel
theorem dX12_text_46 : decode cX12_text 46 = .ok (.aload_n 0, 1) := by decide +kernel
theorem dX12_text_47 : decode cX12_text 47 = .ok (.getfield 7, 3) := by decide +kernel
theorem dX12_text_50 : decode cX12_text 50 = .ok (.iload_n 1, 1) := by decide +kernel
theorem dX12_text_51 : decode cX12_text 51 = .ok (.iaload, 1) := by decide +kernel
theorem dX12_text_52 : decode cX12_text 52 = .ok (.iconst 2, 1) := by decide +kernel
theorem dX12_text_53 : decode cX12_text 53 = .ok (.if_icmp .lt 18, 3) := by decide +kernel
theorem dX12_text_56 : decode cX12_text 56 = .ok (.goto 12, 3) := by decide +kernel
theorem dX12_text_59 : decode cX12_text 59 = .ok (.aload_n 0, 1) := by decide +kernel
theorem dX12_text_60 : decode cX12_text 60 = .ok (.iload_n 1, 1) := by decide +kernel
theorem dX12_text_61 : decode cX12_text 61 = .ok (.iload_n 2, 1) := by decide +kernel
theorem dX12_text_62 : decode cX12_text 62 = .ok (.invokevirtual 217, 3) := by decide +kernel
theorem dX12_text_65 : decode cX12_text 65 = .ok (.ifCond .ne 6, 3) := by decide +kernel
theorem dX12_text_68 : decode cX12_text 68 = .ok (.bipush (-2), 2) := by decide +kernel
theorem dX12_text_70 : decode cX12_text 70 = .ok (.ireturn, 1) := by decide +kernel
theorem dX12_text_71 : decode cX12_text 71 = .ok (.aload_n 0, 1) := by decide +kernel
theorem dX12_text_72 : decode cX12_text 72 = .ok (.iconst 0, 1) := by decide +kernel
theorem dX12_text_73 : decode cX12_text 73 = .ok (.putfield 155, 3) := by decide +kernel
theorem dX12_text_76 : decode cX12_text 76 = .ok (.aload_n 0, 1) := by decide +kernel
theorem dX12_text_77 : decode cX12_text 77 = .ok (.iconst 0, 1) := by decide +kernel
theorem dX12_text_78 : decode cX12_text 78 = .ok (.putfield 189, 3) := by decide +kernel
theorem dX12_text_81 : decode cX12_text 81 = .ok (.iconst 0, 1) := by decide +kernel
theorem dX12_text_82 : decode cX12_text 82 = .ok (.istore_n 3, 1) := by decide +kernel
theorem dX12_text_83 : decode cX12_text 83 = .ok (.iload_n 3, 1) := by decide +kernel
theorem dX12_text_84 : decode cX12_text 84 = .ok (.bipush 121, 2) := by decide +kernel
theorem dX12_text_86 : decode cX12_text 86 = .ok (.if_icmp .ge 16, 3) := by decide +kernel
theorem dX12_text_89 : decode cX12_text 89 = .ok (.aload_n 0, 1) := by decide +kernel
theorem dX12_text_90 : decode cX12_text 90 = .ok (.getfield 17, 3) := by decide +kernel
theorem dX12_text_93 : decode cX12_text 93 = .ok (.iload_n 3, 1) := by decide +kernel
theorem dX12_text_94 : decode cX12_text 94 = .ok (.iconst 0, 1) := by decide +kernel
theorem dX12_text_95 : decode cX12_text 95 = .ok (.iastore, 1) := by decide +kernel
theorem dX12_text_96 : decode cX12_text 96 = .ok (.iinc 3 1, 3) := by decide +kernel
theorem dX12_text_99 : decode cX12_text 99 = .ok (.goto (-16), 3) := by decide +kernel
theorem dX12_text_102 : decode cX12_text 102 = .ok (.iload_n 1, 1) := by decide +kernel
theorem dX12_text_103 : decode cX12_text 103 = .ok (.ifCond .ne 25, 3) := by decide +kernel
theorem dX12_text_106 : decode cX12_text 106 = .ok (.aload_n 0, 1) := by decide +kernel
theorem dX12_text_107 : decode cX12_text 107 = .ok (.getfield 17, 3) := by decide +kernel
theorem dX12_text_110 : decode cX12_text 110 = .ok (.iconst 0, 1) := by decide +kernel
theorem dX12_text_111 : decode cX12_text 111 = .ok (.iconst 4, 1) := by decide +kernel
theorem dX12_text_112 : decode cX12_text 112 = .ok (.iastore, 1) := by decide +kernel
theorem dX12_text_113 : decode cX12_text 113 = .ok (.aload_n 0, 1) := by decide +kernel
theorem dX12_text_114 : decode cX12_text 114 = .ok (.getfield 17, 3) := by decide +kernel
theorem dX12_text_117 : decode cX12_text 117 = .ok (.iconst 1, 1) := by decide +kernel
theorem dX12_text_118 : decode cX12_text 118 = .ok (.iconst 2, 1) := by decide +kernel
theorem dX12_text_119 : decode cX12_text 119 = .ok (.iastore, 1) := by decide +kernel
theorem dX12_text_120 : decode cX12_text 120 = .ok (.aload_n 0, 1) := by decide +kernel
theorem dX12_text_121 : decode cX12_text 121 = .ok (.getfield 17, 3) := by decide +kernel
theorem dX12_text_124 : decode cX12_text 124 = .ok (.iconst 2, 1) := by decide +kernel
theorem dX12_text_125 : decode cX12_text 125 = .ok (.bipush 9, 2) := by decide +kernel
theorem dX12_text_127 : decode cX12_text 127 = .ok (.iastore, 1) := by decide +kernel
theorem dX12_text_128 : decode cX12_text 128 = .ok (.aload_n 0, 1) := by decide +kernel
theorem dX12_text_129 : decode cX12_text 129 = .ok (.invokevirtual 204, 3) := by decide +kernel
theorem dX12_text_132 : decode cX12_text 132 = .ok (.aload_n 0, 1) := by decide +kernel
theorem dX12_text_133 : decode cX12_text 133 = .ok (.getfield 189, 3) := by decide +kernel
theorem dX12_text_136 : decode cX12_text 136 = .ok (.ifCond .ne 57, 3) := by decide +kernel
theorem dX12_text_139 : decode cX12_text 139 = .ok (.aload_n 0, 1) := by decide +kernel
theorem dX12_text_140 : decode cX12_text 140 = .ok (.getfield 165, 3) := by decide +kernel
theorem dX12_text_143 : decode cX12_text 143 = .ok (.ifCond .eq 50, 3) := by decide +kernel
theorem dX12_text_146 : decode cX12_text 146 = .ok (.iload_n 1, 1) := by decide +kernel
theorem dX12_text_147 : decode cX12_text 147 = .ok (.lookupswitch 39 #[(0, 25), (1, 32)], 25) := by decide +kernel
theorem dX12_text_172 : decode cX12_text 172 = .ok (.aload_n 0, 1) := by decide +kernel
theorem dX12_text_173 : decode cX12_text 173 = .ok (.invokevirtual 221, 3) := by decide +kernel
theorem dX12_text_176 : decode cX12_text 176 = .ok (.goto (-44), 3) := by decide +kernel
theorem dX12_text_179 : decode cX12_text 179 = .ok (.aload_n 0, 1) := by decide +kernel
theorem dX12_text_180 : decode cX12_text 180 = .ok (.invokevirtual 224, 3) := by decide +kernel
theorem dX12_text_183 : decode cX12_text 183 = .ok (.goto (-51), 3) := by decide +kernel
theorem dX12_text_186 : decode cX12_text 186 = .ok (.aload_n 0, 1) := by decide +kernel
theorem dX12_text_187 : decode cX12_text 187 = .ok (.invokevirtual 227, 3) := by decide +kernel
theorem dX12_text_190 : decode cX12_text 190 = .ok (.goto (-58), 3) := by decide +kernel
theorem dX12_text_193 : decode cX12_text 193 = .ok (.aload_n 0, 1) := by decide +kernel
theorem dX12_text_194 : decode cX12_text 194 = .ok (.getfield 7, 3) := by decide +kernel
theorem dX12_text_197 : decode cX12_text 197 = .ok (.iconst 5, 1) := by decide +kernel
theorem dX12_text_198 : decode cX12_text 198 = .ok (.iaload, 1) := by decide +kernel
theorem dX12_text_199 : decode cX12_text 199 = .ok (.ifCond .eq 5, 3) := by decide +kernel
theorem dX12_text_202 : decode cX12_text 202 = .ok (.iconst (-1), 1) := by decide +kernel
theorem dX12_text_203 : decode cX12_text 203 = .ok (.ireturn, 1) := by decide +kernel
theorem dX12_text_204 : decode cX12_text 204 = .ok (.iload_n 2, 1) := by decide +kernel
theorem dX12_text_205 : decode cX12_text 205 = .ok (.iconst (-1), 1) := by decide +kernel
theorem dX12_text_206 : decode cX12_text 206 = .ok (.if_icmp .ne 12, 3) := by decide +kernel
theorem dX12_text_209 : decode cX12_text 209 = .ok (.aload_n 0, 1) := by decide +kernel
theorem dX12_text_210 : decode cX12_text 210 = .ok (.getfield 7, 3) := by decide +kernel
theorem dX12_text_213 : decode cX12_text 213 = .ok (.iload_n 1, 1) := by decide +kernel
theorem dX12_text_214 : decode cX12_text 214 = .ok (.iaload, 1) := by decide +kernel
theorem dX12_text_215 : decode cX12_text 215 = .ok (.goto 4, 3) := by decide +kernel
theorem dX12_text_218 : decode cX12_text 218 = .ok (.iload_n 2, 1) := by decide +kernel
theorem dX12_text_219 : decode cX12_text 219 = .ok (.istore_n 3, 1) := by decide +kernel
theorem dX12_text_220 : decode cX12_text 220 = .ok (.iload_n 2, 1) := by decide +kernel
theorem dX12_text_221 : decode cX12_text 221 = .ok (.iconst (-1), 1) := by decide +kernel
theorem dX12_text_222 : decode cX12_text 222 = .ok (.if_icmp .ne 13, 3) := by decide +kernel
theorem dX12_text_225 : decode cX12_text 225 = .ok (.aload_n 0, 1) := by decide +kernel
theorem dX12_text_226 : decode cX12_text 226 = .ok (.getfield 7, 3) := by decide +kernel
theorem dX12_text_229 : decode cX12_text 229 = .ok (.iload_n 1, 1) := by decide +kernel
theorem dX12_text_230 : decode cX12_text 230 = .ok (.dup2, 1) := by decide +kernel
theorem dX12_text_231 : decode cX12_text 231 = .ok (.iaload, 1) := by decide +kernel
theorem dX12_text_232 : decode cX12_text 232 = .ok (.iconst 1, 1) := by decide +kernel
theorem dX12_text_233 : decode cX12_text 233 = .ok (.iadd, 1) := by decide +kernel
theorem dX12_text_234 : decode cX12_text 234 = .ok (.iastore, 1) := by decide +kernel
theorem dX12_text_235 : decode cX12_text 235 = .ok (.iconst 0, 1) := by decide +kernel
theorem dX12_text_236 : decode cX12_text 236 = .ok (.istore 4, 2) := by decide +kernel
theorem dX12_text_238 : decode cX12_text 238 = .ok (.iload 4, 2) := by decide +kernel
theorem dX12_text_240 : decode cX12_text 240 = .ok (.iload_n 1, 1) := by decide +kernel
theorem dX12_text_241 : decode cX12_text 241 = .ok (.invokestatic 230, 3) := by decide +kernel
theorem dX12_text_244 : decode cX12_text 244 = .ok (.if_icmp .ge 29, 3) := by decide +kernel
theorem dX12_text_247 : decode cX12_text 247 = .ok (.aload_n 0, 1) := by decide +kernel
theorem dX12_text_248 : decode cX12_text 248 = .ok (.getfield 7, 3) := by decide +kernel
theorem dX12_text_251 : decode cX12_text 251 = .ok (.iload_n 1, 1) := by decide +kernel
theorem dX12_text_252 : decode cX12_text 252 = .ok (.iload_n 3, 1) := by decide +kernel
theorem dX12_text_253 : decode cX12_text 253 = .ok (.invokestatic 233, 3) := by decide +kernel
theorem dX12_text_256 : decode cX12_text 256 = .ok (.iload 4, 2) := by decide +kernel
theorem dX12_text_258 : decode cX12_text 258 = .ok (.iadd, 1) := by decide +kernel
theorem dX12_text_259 : decode cX12_text 259 = .ok (.aload_n 0, 1) := by decide +kernel
theorem dX12_text_260 : decode cX12_text 260 = .ok (.getfield 17, 3) := by decide +kernel
theorem dX12_text_263 : decode cX12_text 263 = .ok (.iload 4, 2) := by decide +kernel
theorem dX12_text_265 : decode cX12_text 265 = .ok (.iaload, 1) := by decide +kernel
theorem dX12_text_266 : decode cX12_text 266 = .ok (.iastore, 1) := by decide +kernel
theorem dX12_text_267 : decode cX12_text 267 = .ok (.iinc 4 1, 3) := by decide +kernel
theorem dX12_text_270 : decode cX12_text 270 = .ok (.goto (-32), 3) := by decide +kernel
theorem dX12_text_273 : decode cX12_text 273 = .ok (.iload_n 3, 1) := by decide +kernel
theorem dX12_text_274 : decode cX12_text 274 = .ok (.ireturn, 1) := by decide +kernel
