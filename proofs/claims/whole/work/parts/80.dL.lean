theorem d_L_add_0 : decode c_L_add 0 = .ok (.aload_n 3, 1) := by decide +kernel
theorem d_L_add_1 : decode c_L_add 1 = .ok (.iconst 0, 1) := by decide +kernel
theorem d_L_add_2 : decode c_L_add 2 = .ok (.aload_n 0, 1) := by decide +kernel
theorem d_L_add_3 : decode c_L_add 3 = .ok (.iload_n 1, 1) := by decide +kernel
theorem d_L_add_4 : decode c_L_add 4 = .ok (.iload_n 2, 1) := by decide +kernel
theorem d_L_add_5 : decode c_L_add 5 = .ok (.invokevirtual 7, 3) := by decide +kernel
theorem d_L_add_8 : decode c_L_add 8 = .ok (.ifCond .eq 7, 3) := by decide +kernel
theorem d_L_add_11 : decode c_L_add 11 = .ok (.lconst 1, 1) := by decide +kernel
theorem d_L_add_12 : decode c_L_add 12 = .ok (.goto 4, 3) := by decide +kernel
theorem d_L_add_15 : decode c_L_add 15 = .ok (.lconst 0, 1) := by decide +kernel
theorem d_L_add_16 : decode c_L_add 16 = .ok (.lastore, 1) := by decide +kernel
theorem d_L_add_17 : decode c_L_add 17 = .ok (.goto 11, 3) := by decide +kernel
theorem d_L_add_20 : decode c_L_add 20 = .ok (.astore 4, 2) := by decide +kernel
theorem d_L_add_22 : decode c_L_add 22 = .ok (.iconst 1, 1) := by decide +kernel
theorem d_L_add_23 : decode c_L_add 23 = .ok (.ireturn, 1) := by decide +kernel
theorem d_L_add_24 : decode c_L_add 24 = .ok (.astore 4, 2) := by decide +kernel
theorem d_L_add_26 : decode c_L_add 26 = .ok (.iconst 2, 1) := by decide +kernel
theorem d_L_add_27 : decode c_L_add 27 = .ok (.ireturn, 1) := by decide +kernel
theorem d_L_add_28 : decode c_L_add 28 = .ok (.iconst 0, 1) := by decide +kernel
theorem d_L_add_29 : decode c_L_add 29 = .ok (.ireturn, 1) := by decide +kernel
theorem d_L_remove_0 : decode c_L_remove 0 = .ok (.aload_n 3, 1) := by decide +kernel
theorem d_L_remove_1 : decode c_L_remove 1 = .ok (.iconst 0, 1) := by decide +kernel
theorem d_L_remove_2 : decode c_L_remove 2 = .ok (.aload_n 0, 1) := by decide +kernel
theorem d_L_remove_3 : decode c_L_remove 3 = .ok (.iload_n 1, 1) := by decide +kernel
theorem d_L_remove_4 : decode c_L_remove 4 = .ok (.iload_n 2, 1) := by decide +kernel
theorem d_L_remove_5 : decode c_L_remove 5 = .ok (.invokevirtual 17, 3) := by decide +kernel
theorem d_L_remove_8 : decode c_L_remove 8 = .ok (.ifCond .eq 7, 3) := by decide +kernel
theorem d_L_remove_11 : decode c_L_remove 11 = .ok (.lconst 1, 1) := by decide +kernel
theorem d_L_remove_12 : decode c_L_remove 12 = .ok (.goto 4, 3) := by decide +kernel
theorem d_L_remove_15 : decode c_L_remove 15 = .ok (.lconst 0, 1) := by decide +kernel
theorem d_L_remove_16 : decode c_L_remove 16 = .ok (.lastore, 1) := by decide +kernel
theorem d_L_remove_17 : decode c_L_remove 17 = .ok (.goto 7, 3) := by decide +kernel
theorem d_L_remove_20 : decode c_L_remove 20 = .ok (.astore 4, 2) := by decide +kernel
theorem d_L_remove_22 : decode c_L_remove 22 = .ok (.iconst 1, 1) := by decide +kernel
theorem d_L_remove_23 : decode c_L_remove 23 = .ok (.ireturn, 1) := by decide +kernel
theorem d_L_remove_24 : decode c_L_remove 24 = .ok (.iconst 0, 1) := by decide +kernel
theorem d_L_remove_25 : decode c_L_remove 25 = .ok (.ireturn, 1) := by decide +kernel
theorem d_L_group_0 : decode c_L_group 0 = .ok (.aload_n 2, 1) := by decide +kernel
theorem d_L_group_1 : decode c_L_group 1 = .ok (.iconst 0, 1) := by decide +kernel
theorem d_L_group_2 : decode c_L_group 2 = .ok (.aload_n 0, 1) := by decide +kernel
theorem d_L_group_3 : decode c_L_group 3 = .ok (.iload_n 1, 1) := by decide +kernel
theorem d_L_group_4 : decode c_L_group 4 = .ok (.invokevirtual 20, 3) := by decide +kernel
theorem d_L_group_7 : decode c_L_group 7 = .ok (.i2l, 1) := by decide +kernel
theorem d_L_group_8 : decode c_L_group 8 = .ok (.lastore, 1) := by decide +kernel
theorem d_L_group_9 : decode c_L_group 9 = .ok (.goto 6, 3) := by decide +kernel
theorem d_L_group_12 : decode c_L_group 12 = .ok (.astore_n 3, 1) := by decide +kernel
theorem d_L_group_13 : decode c_L_group 13 = .ok (.iconst 1, 1) := by decide +kernel
theorem d_L_group_14 : decode c_L_group 14 = .ok (.ireturn, 1) := by decide +kernel
theorem d_L_group_15 : decode c_L_group 15 = .ok (.iconst 0, 1) := by decide +kernel
theorem d_L_group_16 : decode c_L_group 16 = .ok (.ireturn, 1) := by decide +kernel
theorem d_L_members_0 : decode c_L_members 0 = .ok (.aload_n 2, 1) := by decide +kernel
theorem d_L_members_1 : decode c_L_members 1 = .ok (.iconst 0, 1) := by decide +kernel
theorem d_L_members_2 : decode c_L_members 2 = .ok (.aload_n 0, 1) := by decide +kernel
theorem d_L_members_3 : decode c_L_members 3 = .ok (.iload_n 1, 1) := by decide +kernel
theorem d_L_members_4 : decode c_L_members 4 = .ok (.invokevirtual 24, 3) := by decide +kernel
theorem d_L_members_7 : decode c_L_members 7 = .ok (.i2l, 1) := by decide +kernel
theorem d_L_members_8 : decode c_L_members 8 = .ok (.lastore, 1) := by decide +kernel
theorem d_L_members_9 : decode c_L_members 9 = .ok (.goto 6, 3) := by decide +kernel
theorem d_L_members_12 : decode c_L_members 12 = .ok (.astore_n 3, 1) := by decide +kernel
theorem d_L_members_13 : decode c_L_members 13 = .ok (.iconst 1, 1) := by decide +kernel
theorem d_L_members_14 : decode c_L_members 14 = .ok (.ireturn, 1) := by decide +kernel
theorem d_L_members_15 : decode c_L_members 15 = .ok (.iconst 0, 1) := by decide +kernel
theorem d_L_members_16 : decode c_L_members 16 = .ok (.ireturn, 1) := by decide +kernel
theorem d_L_rank_0 : decode c_L_rank 0 = .ok (.aload_n 2, 1) := by decide +kernel
theorem d_L_rank_1 : decode c_L_rank 1 = .ok (.iconst 0, 1) := by decide +kernel
theorem d_L_rank_2 : decode c_L_rank 2 = .ok (.aload_n 0, 1) := by decide +kernel
theorem d_L_rank_3 : decode c_L_rank 3 = .ok (.iload_n 1, 1) := by decide +kernel
theorem d_L_rank_4 : decode c_L_rank 4 = .ok (.invokevirtual 27, 3) := by decide +kernel
theorem d_L_rank_7 : decode c_L_rank 7 = .ok (.i2l, 1) := by decide +kernel
theorem d_L_rank_8 : decode c_L_rank 8 = .ok (.lastore, 1) := by decide +kernel
theorem d_L_rank_9 : decode c_L_rank 9 = .ok (.goto 6, 3) := by decide +kernel
theorem d_L_rank_12 : decode c_L_rank 12 = .ok (.astore_n 3, 1) := by decide +kernel
theorem d_L_rank_13 : decode c_L_rank 13 = .ok (.iconst 1, 1) := by decide +kernel
theorem d_L_rank_14 : decode c_L_rank 14 = .ok (.ireturn, 1) := by decide +kernel
theorem d_L_rank_15 : decode c_L_rank 15 = .ok (.iconst 0, 1) := by decide +kernel
theorem d_L_rank_16 : decode c_L_rank 16 = .ok (.ireturn, 1) := by decide +kernel
theorem d_L_ranked_0 : decode c_L_ranked 0 = .ok (.aload_n 2, 1) := by decide +kernel
theorem d_L_ranked_1 : decode c_L_ranked 1 = .ok (.iconst 0, 1) := by decide +kernel
theorem d_L_ranked_2 : decode c_L_ranked 2 = .ok (.aload_n 0, 1) := by decide +kernel
theorem d_L_ranked_3 : decode c_L_ranked 3 = .ok (.iload_n 1, 1) := by decide +kernel
theorem d_L_ranked_4 : decode c_L_ranked 4 = .ok (.invokevirtual 30, 3) := by decide +kernel
theorem d_L_ranked_7 : decode c_L_ranked 7 = .ok (.i2l, 1) := by decide +kernel
theorem d_L_ranked_8 : decode c_L_ranked 8 = .ok (.lastore, 1) := by decide +kernel
theorem d_L_ranked_9 : decode c_L_ranked 9 = .ok (.goto 6, 3) := by decide +kernel
theorem d_L_ranked_12 : decode c_L_ranked 12 = .ok (.astore_n 3, 1) := by decide +kernel
theorem d_L_ranked_13 : decode c_L_ranked 13 = .ok (.iconst 1, 1) := by decide +kernel
theorem d_L_ranked_14 : decode c_L_ranked 14 = .ok (.ireturn, 1) := by decide +kernel
theorem d_L_ranked_15 : decode c_L_ranked 15 = .ok (.iconst 0, 1) := by decide +kernel
theorem d_L_ranked_16 : decode c_L_ranked 16 = .ok (.ireturn, 1) := by decide +kernel
theorem d_L_reaches_0 : decode c_L_reaches 0 = .ok (.aload_n 3, 1) := by decide +kernel
theorem d_L_reaches_1 : decode c_L_reaches 1 = .ok (.iconst 0, 1) := by decide +kernel
theorem d_L_reaches_2 : decode c_L_reaches 2 = .ok (.aload_n 0, 1) := by decide +kernel
theorem d_L_reaches_3 : decode c_L_reaches 3 = .ok (.iload_n 1, 1) := by decide +kernel
theorem d_L_reaches_4 : decode c_L_reaches 4 = .ok (.iload_n 2, 1) := by decide +kernel
theorem d_L_reaches_5 : decode c_L_reaches 5 = .ok (.invokevirtual 35, 3) := by decide +kernel
theorem d_L_reaches_8 : decode c_L_reaches 8 = .ok (.ifCond .eq 7, 3) := by decide +kernel
theorem d_L_reaches_11 : decode c_L_reaches 11 = .ok (.lconst 1, 1) := by decide +kernel
theorem d_L_reaches_12 : decode c_L_reaches 12 = .ok (.goto 4, 3) := by decide +kernel
theorem d_L_reaches_15 : decode c_L_reaches 15 = .ok (.lconst 0, 1) := by decide +kernel
theorem d_L_reaches_16 : decode c_L_reaches 16 = .ok (.lastore, 1) := by decide +kernel
theorem d_L_reaches_17 : decode c_L_reaches 17 = .ok (.goto 7, 3) := by decide +kernel
theorem d_L_reaches_20 : decode c_L_reaches 20 = .ok (.astore 4, 2) := by decide +kernel
theorem d_L_reaches_22 : decode c_L_reaches 22 = .ok (.iconst 1, 1) := by decide +kernel
theorem d_L_reaches_23 : decode c_L_reaches 23 = .ok (.ireturn, 1) := by decide +kernel
theorem d_L_reaches_24 : decode c_L_reaches 24 = .ok (.iconst 0, 1) := by decide +kernel
theorem d_L_reaches_25 : decode c_L_reaches 25 = .ok (.ireturn, 1) := by decide +kernel
theorem d_L_distance_0 : decode c_L_distance 0 = .ok (.aload_n 3, 1) := by decide +kernel
theorem d_L_distance_1 : decode c_L_distance 1 = .ok (.iconst 0, 1) := by decide +kernel
theorem d_L_distance_2 : decode c_L_distance 2 = .ok (.aload_n 0, 1) := by decide +kernel
theorem d_L_distance_3 : decode c_L_distance 3 = .ok (.iload_n 1, 1) := by decide +kernel
theorem d_L_distance_4 : decode c_L_distance 4 = .ok (.iload_n 2, 1) := by decide +kernel
theorem d_L_distance_5 : decode c_L_distance 5 = .ok (.invokevirtual 38, 3) := by decide +kernel
theorem d_L_distance_8 : decode c_L_distance 8 = .ok (.i2l, 1) := by decide +kernel
theorem d_L_distance_9 : decode c_L_distance 9 = .ok (.lastore, 1) := by decide +kernel
theorem d_L_distance_10 : decode c_L_distance 10 = .ok (.goto 7, 3) := by decide +kernel
theorem d_L_distance_13 : decode c_L_distance 13 = .ok (.astore 4, 2) := by decide +kernel
theorem d_L_distance_15 : decode c_L_distance 15 = .ok (.iconst 1, 1) := by decide +kernel
theorem d_L_distance_16 : decode c_L_distance 16 = .ok (.ireturn, 1) := by decide +kernel
theorem d_L_distance_17 : decode c_L_distance 17 = .ok (.iconst 0, 1) := by decide +kernel
theorem d_L_distance_18 : decode c_L_distance 18 = .ok (.ireturn, 1) := by decide +kernel
theorem d_L_way_0 : decode c_L_way 0 = .ok (.aload 4, 2) := by decide +kernel
theorem d_L_way_2 : decode c_L_way 2 = .ok (.iconst 0, 1) := by decide +kernel
theorem d_L_way_3 : decode c_L_way 3 = .ok (.aload_n 0, 1) := by decide +kernel
theorem d_L_way_4 : decode c_L_way 4 = .ok (.iload_n 1, 1) := by decide +kernel
theorem d_L_way_5 : decode c_L_way 5 = .ok (.iload_n 2, 1) := by decide +kernel
theorem d_L_way_6 : decode c_L_way 6 = .ok (.iload_n 3, 1) := by decide +kernel
theorem d_L_way_7 : decode c_L_way 7 = .ok (.invokevirtual 42, 3) := by decide +kernel
theorem d_L_way_10 : decode c_L_way 10 = .ok (.i2l, 1) := by decide +kernel
theorem d_L_way_11 : decode c_L_way 11 = .ok (.lastore, 1) := by decide +kernel
theorem d_L_way_12 : decode c_L_way 12 = .ok (.goto 15, 3) := by decide +kernel
theorem d_L_way_15 : decode c_L_way 15 = .ok (.astore 5, 2) := by decide +kernel
theorem d_L_way_17 : decode c_L_way 17 = .ok (.iconst 1, 1) := by decide +kernel
theorem d_L_way_18 : decode c_L_way 18 = .ok (.ireturn, 1) := by decide +kernel
theorem d_L_way_19 : decode c_L_way 19 = .ok (.astore 5, 2) := by decide +kernel
theorem d_L_way_21 : decode c_L_way 21 = .ok (.iconst 2, 1) := by decide +kernel
theorem d_L_way_22 : decode c_L_way 22 = .ok (.ireturn, 1) := by decide +kernel
theorem d_L_way_23 : decode c_L_way 23 = .ok (.astore 5, 2) := by decide +kernel
theorem d_L_way_25 : decode c_L_way 25 = .ok (.iconst 3, 1) := by decide +kernel
theorem d_L_way_26 : decode c_L_way 26 = .ok (.ireturn, 1) := by decide +kernel
theorem d_L_way_27 : decode c_L_way 27 = .ok (.iconst 0, 1) := by decide +kernel
theorem d_L_way_28 : decode c_L_way 28 = .ok (.ireturn, 1) := by decide +kernel
theorem d_L_gate_0 : decode c_L_gate 0 = .ok (.aload_n 3, 1) := by decide +kernel
theorem d_L_gate_1 : decode c_L_gate 1 = .ok (.iconst 0, 1) := by decide +kernel
theorem d_L_gate_2 : decode c_L_gate 2 = .ok (.aload_n 0, 1) := by decide +kernel
theorem d_L_gate_3 : decode c_L_gate 3 = .ok (.iload_n 1, 1) := by decide +kernel
theorem d_L_gate_4 : decode c_L_gate 4 = .ok (.iload_n 2, 1) := by decide +kernel
theorem d_L_gate_5 : decode c_L_gate 5 = .ok (.invokevirtual 48, 3) := by decide +kernel
theorem d_L_gate_8 : decode c_L_gate 8 = .ok (.i2l, 1) := by decide +kernel
theorem d_L_gate_9 : decode c_L_gate 9 = .ok (.lastore, 1) := by decide +kernel
theorem d_L_gate_10 : decode c_L_gate 10 = .ok (.goto 11, 3) := by decide +kernel
theorem d_L_gate_13 : decode c_L_gate 13 = .ok (.astore 4, 2) := by decide +kernel
theorem d_L_gate_15 : decode c_L_gate 15 = .ok (.iconst 1, 1) := by decide +kernel
theorem d_L_gate_16 : decode c_L_gate 16 = .ok (.ireturn, 1) := by decide +kernel
theorem d_L_gate_17 : decode c_L_gate 17 = .ok (.astore 4, 2) := by decide +kernel
theorem d_L_gate_19 : decode c_L_gate 19 = .ok (.iconst 2, 1) := by decide +kernel
theorem d_L_gate_20 : decode c_L_gate 20 = .ok (.ireturn, 1) := by decide +kernel
theorem d_L_gate_21 : decode c_L_gate 21 = .ok (.iconst 0, 1) := by decide +kernel
theorem d_L_gate_22 : decode c_L_gate 22 = .ok (.ireturn, 1) := by decide +kernel
theorem d_L_gated_0 : decode c_L_gated 0 = .ok (.aload_n 3, 1) := by decide +kernel
theorem d_L_gated_1 : decode c_L_gated 1 = .ok (.iconst 0, 1) := by decide +kernel
theorem d_L_gated_2 : decode c_L_gated 2 = .ok (.aload_n 0, 1) := by decide +kernel
theorem d_L_gated_3 : decode c_L_gated 3 = .ok (.iload_n 1, 1) := by decide +kernel
theorem d_L_gated_4 : decode c_L_gated 4 = .ok (.iload_n 2, 1) := by decide +kernel
theorem d_L_gated_5 : decode c_L_gated 5 = .ok (.invokevirtual 51, 3) := by decide +kernel
theorem d_L_gated_8 : decode c_L_gated 8 = .ok (.i2l, 1) := by decide +kernel
theorem d_L_gated_9 : decode c_L_gated 9 = .ok (.lastore, 1) := by decide +kernel
theorem d_L_gated_10 : decode c_L_gated 10 = .ok (.goto 7, 3) := by decide +kernel
theorem d_L_gated_13 : decode c_L_gated 13 = .ok (.astore 4, 2) := by decide +kernel
theorem d_L_gated_15 : decode c_L_gated 15 = .ok (.iconst 1, 1) := by decide +kernel
theorem d_L_gated_16 : decode c_L_gated 16 = .ok (.ireturn, 1) := by decide +kernel
theorem d_L_gated_17 : decode c_L_gated 17 = .ok (.iconst 0, 1) := by decide +kernel
theorem d_L_gated_18 : decode c_L_gated 18 = .ok (.ireturn, 1) := by decide +kernel
theorem d_L_places_0 : decode c_L_places 0 = .ok (.aload_n 3, 1) := by decide +kernel
theorem d_L_places_1 : decode c_L_places 1 = .ok (.iconst 0, 1) := by decide +kernel
theorem d_L_places_2 : decode c_L_places 2 = .ok (.aload_n 0, 1) := by decide +kernel
theorem d_L_places_3 : decode c_L_places 3 = .ok (.iload_n 1, 1) := by decide +kernel
theorem d_L_places_4 : decode c_L_places 4 = .ok (.iload_n 2, 1) := by decide +kernel
theorem d_L_places_5 : decode c_L_places 5 = .ok (.invokevirtual 54, 3) := by decide +kernel
theorem d_L_places_8 : decode c_L_places 8 = .ok (.i2l, 1) := by decide +kernel
theorem d_L_places_9 : decode c_L_places 9 = .ok (.lastore, 1) := by decide +kernel
theorem d_L_places_10 : decode c_L_places 10 = .ok (.goto 7, 3) := by decide +kernel
theorem d_L_places_13 : decode c_L_places 13 = .ok (.astore 4, 2) := by decide +kernel
theorem d_L_places_15 : decode c_L_places 15 = .ok (.iconst 1, 1) := by decide +kernel
theorem d_L_places_16 : decode c_L_places 16 = .ok (.ireturn, 1) := by decide +kernel
theorem d_L_places_17 : decode c_L_places 17 = .ok (.iconst 0, 1) := by decide +kernel
theorem d_L_places_18 : decode c_L_places 18 = .ok (.ireturn, 1) := by decide +kernel
theorem d_L_arrows_0 : decode c_L_arrows 0 = .ok (.aload_n 3, 1) := by decide +kernel
theorem d_L_arrows_1 : decode c_L_arrows 1 = .ok (.iconst 0, 1) := by decide +kernel
theorem d_L_arrows_2 : decode c_L_arrows 2 = .ok (.aload_n 0, 1) := by decide +kernel
theorem d_L_arrows_3 : decode c_L_arrows 3 = .ok (.iload_n 1, 1) := by decide +kernel
theorem d_L_arrows_4 : decode c_L_arrows 4 = .ok (.iload_n 2, 1) := by decide +kernel
theorem d_L_arrows_5 : decode c_L_arrows 5 = .ok (.invokevirtual 57, 3) := by decide +kernel
theorem d_L_arrows_8 : decode c_L_arrows 8 = .ok (.i2l, 1) := by decide +kernel
theorem d_L_arrows_9 : decode c_L_arrows 9 = .ok (.lastore, 1) := by decide +kernel
theorem d_L_arrows_10 : decode c_L_arrows 10 = .ok (.goto 7, 3) := by decide +kernel
theorem d_L_arrows_13 : decode c_L_arrows 13 = .ok (.astore 4, 2) := by decide +kernel
theorem d_L_arrows_15 : decode c_L_arrows 15 = .ok (.iconst 1, 1) := by decide +kernel
theorem d_L_arrows_16 : decode c_L_arrows 16 = .ok (.ireturn, 1) := by decide +kernel
theorem d_L_arrows_17 : decode c_L_arrows 17 = .ok (.iconst 0, 1) := by decide +kernel
theorem d_L_arrows_18 : decode c_L_arrows 18 = .ok (.ireturn, 1) := by decide +kernel
theorem d_L_figure_0 : decode c_L_figure 0 = .ok (.aload_n 2, 1) := by decide +kernel
theorem d_L_figure_1 : decode c_L_figure 1 = .ok (.iconst 0, 1) := by decide +kernel
theorem d_L_figure_2 : decode c_L_figure 2 = .ok (.aload_n 0, 1) := by decide +kernel
theorem d_L_figure_3 : decode c_L_figure 3 = .ok (.iload_n 1, 1) := by decide +kernel
theorem d_L_figure_4 : decode c_L_figure 4 = .ok (.invokevirtual 60, 3) := by decide +kernel
theorem d_L_figure_7 : decode c_L_figure 7 = .ok (.i2l, 1) := by decide +kernel
theorem d_L_figure_8 : decode c_L_figure 8 = .ok (.lastore, 1) := by decide +kernel
theorem d_L_figure_9 : decode c_L_figure 9 = .ok (.goto 6, 3) := by decide +kernel
theorem d_L_figure_12 : decode c_L_figure 12 = .ok (.astore_n 3, 1) := by decide +kernel
theorem d_L_figure_13 : decode c_L_figure 13 = .ok (.iconst 1, 1) := by decide +kernel
theorem d_L_figure_14 : decode c_L_figure 14 = .ok (.ireturn, 1) := by decide +kernel
theorem d_L_figure_15 : decode c_L_figure 15 = .ok (.iconst 0, 1) := by decide +kernel
theorem d_L_figure_16 : decode c_L_figure 16 = .ok (.ireturn, 1) := by decide +kernel
