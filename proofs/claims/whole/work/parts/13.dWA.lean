theorem d_A_init_0 : decode c_A_init 0 = .ok (.aload_n 0, 1) := by decide +kernel
theorem d_A_init_1 : decode c_A_init 1 = .ok (.invokespecial 1, 3) := by decide +kernel
theorem d_A_init_4 : decode c_A_init 4 = .ok (.aload_n 0, 1) := by decide +kernel
theorem d_A_init_5 : decode c_A_init 5 = .ok (.new 7, 3) := by decide +kernel
theorem d_A_init_8 : decode c_A_init 8 = .ok (.dup, 1) := by decide +kernel
theorem d_A_init_9 : decode c_A_init 9 = .ok (.invokespecial 9, 3) := by decide +kernel
theorem d_A_init_12 : decode c_A_init 12 = .ok (.putfield 10, 3) := by decide +kernel
theorem d_A_init_15 : decode c_A_init 15 = .ok (.aload_n 0, 1) := by decide +kernel
theorem d_A_init_16 : decode c_A_init 16 = .ok (.new 16, 3) := by decide +kernel
theorem d_A_init_19 : decode c_A_init 19 = .ok (.dup, 1) := by decide +kernel
theorem d_A_init_20 : decode c_A_init 20 = .ok (.invokespecial 18, 3) := by decide +kernel
theorem d_A_init_23 : decode c_A_init 23 = .ok (.putfield 19, 3) := by decide +kernel
theorem d_A_init_26 : decode c_A_init 26 = .ok (.aload_n 0, 1) := by decide +kernel
theorem d_A_init_27 : decode c_A_init 27 = .ok (.new 23, 3) := by decide +kernel
theorem d_A_init_30 : decode c_A_init 30 = .ok (.dup, 1) := by decide +kernel
theorem d_A_init_31 : decode c_A_init 31 = .ok (.invokespecial 25, 3) := by decide +kernel
theorem d_A_init_34 : decode c_A_init 34 = .ok (.putfield 26, 3) := by decide +kernel
theorem d_A_init_37 : decode c_A_init 37 = .ok (.aload_n 0, 1) := by decide +kernel
theorem d_A_init_38 : decode c_A_init 38 = .ok (.new 30, 3) := by decide +kernel
theorem d_A_init_41 : decode c_A_init 41 = .ok (.dup, 1) := by decide +kernel
theorem d_A_init_42 : decode c_A_init 42 = .ok (.invokespecial 32, 3) := by decide +kernel
theorem d_A_init_45 : decode c_A_init 45 = .ok (.putfield 33, 3) := by decide +kernel
theorem d_A_init_48 : decode c_A_init 48 = .ok (.return_, 1) := by decide +kernel
theorem d_Web_init_0 : decode c_Web_init 0 = .ok (.aload_n 0, 1) := by decide +kernel
theorem d_Web_init_1 : decode c_Web_init 1 = .ok (.invokespecial 3, 3) := by decide +kernel
theorem d_Web_init_4 : decode c_Web_init 4 = .ok (.aload_n 0, 1) := by decide +kernel
theorem d_Web_init_5 : decode c_Web_init 5 = .ok (.bipush 16, 2) := by decide +kernel
theorem d_Web_init_7 : decode c_Web_init 7 = .ok (.newarray .int, 2) := by decide +kernel
theorem d_Web_init_9 : decode c_Web_init 9 = .ok (.putfield 9, 3) := by decide +kernel
theorem d_Web_init_12 : decode c_Web_init 12 = .ok (.aload_n 0, 1) := by decide +kernel
theorem d_Web_init_13 : decode c_Web_init 13 = .ok (.iconst 0, 1) := by decide +kernel
theorem d_Web_init_14 : decode c_Web_init 14 = .ok (.putfield 15, 3) := by decide +kernel
theorem d_Web_init_17 : decode c_Web_init 17 = .ok (.return_, 1) := by decide +kernel
theorem d_A_clear_0 : decode c_A_clear 0 = .ok (.aload_n 0, 1) := by decide +kernel
theorem d_A_clear_1 : decode c_A_clear 1 = .ok (.getfield 10, 3) := by decide +kernel
theorem d_A_clear_4 : decode c_A_clear 4 = .ok (.invokevirtual 52, 3) := by decide +kernel
theorem d_A_clear_7 : decode c_A_clear 7 = .ok (.istore_n 1, 1) := by decide +kernel
theorem d_A_clear_8 : decode c_A_clear 8 = .ok (.aload_n 0, 1) := by decide +kernel
theorem d_A_clear_9 : decode c_A_clear 9 = .ok (.getfield 10, 3) := by decide +kernel
theorem d_A_clear_12 : decode c_A_clear 12 = .ok (.invokevirtual 67, 3) := by decide +kernel
theorem d_A_clear_15 : decode c_A_clear 15 = .ok (.iload_n 1, 1) := by decide +kernel
theorem d_A_clear_16 : decode c_A_clear 16 = .ok (.ireturn, 1) := by decide +kernel
theorem d_Web_count_0 : decode c_Web_count 0 = .ok (.aload_n 0, 1) := by decide +kernel
theorem d_Web_count_1 : decode c_Web_count 1 = .ok (.getfield 15, 3) := by decide +kernel
theorem d_Web_count_4 : decode c_Web_count 4 = .ok (.ireturn, 1) := by decide +kernel
theorem d_Web_takeAll_0 : decode c_Web_takeAll 0 = .ok (.aload_n 0, 1) := by decide +kernel
theorem d_Web_takeAll_1 : decode c_Web_takeAll 1 = .ok (.getfield 9, 3) := by decide +kernel
theorem d_Web_takeAll_4 : decode c_Web_takeAll 4 = .ok (.iconst 0, 1) := by decide +kernel
theorem d_Web_takeAll_5 : decode c_Web_takeAll 5 = .ok (.invokestatic 27, 3) := by decide +kernel
theorem d_Web_takeAll_8 : decode c_Web_takeAll 8 = .ok (.aload_n 0, 1) := by decide +kernel
theorem d_Web_takeAll_9 : decode c_Web_takeAll 9 = .ok (.iconst 0, 1) := by decide +kernel
theorem d_Web_takeAll_10 : decode c_Web_takeAll 10 = .ok (.putfield 15, 3) := by decide +kernel
theorem d_Web_takeAll_13 : decode c_Web_takeAll 13 = .ok (.return_, 1) := by decide +kernel
theorem d_A_add_0 : decode c_A_add 0 = .ok (.iload_n 1, 1) := by decide +kernel
theorem d_A_add_1 : decode c_A_add 1 = .ok (.iload_n 2, 1) := by decide +kernel
theorem d_A_add_2 : decode c_A_add 2 = .ok (.invokestatic 37, 3) := by decide +kernel
theorem d_A_add_5 : decode c_A_add 5 = .ok (.iload_n 1, 1) := by decide +kernel
theorem d_A_add_6 : decode c_A_add 6 = .ok (.iload_n 2, 1) := by decide +kernel
theorem d_A_add_7 : decode c_A_add 7 = .ok (.if_icmp .ne 13, 3) := by decide +kernel
theorem d_A_add_10 : decode c_A_add 10 = .ok (.new 41, 3) := by decide +kernel
theorem d_A_add_13 : decode c_A_add 13 = .ok (.dup, 1) := by decide +kernel
theorem d_A_add_14 : decode c_A_add 14 = .ok (.ldc 43, 2) := by decide +kernel
theorem d_A_add_16 : decode c_A_add 16 = .ok (.invokespecial 45, 3) := by decide +kernel
theorem d_A_add_19 : decode c_A_add 19 = .ok (.athrow, 1) := by decide +kernel
theorem d_A_add_20 : decode c_A_add 20 = .ok (.aload_n 0, 1) := by decide +kernel
theorem d_A_add_21 : decode c_A_add 21 = .ok (.getfield 10, 3) := by decide +kernel
theorem d_A_add_24 : decode c_A_add 24 = .ok (.iload_n 1, 1) := by decide +kernel
theorem d_A_add_25 : decode c_A_add 25 = .ok (.iload_n 2, 1) := by decide +kernel
theorem d_A_add_26 : decode c_A_add 26 = .ok (.invokevirtual 48, 3) := by decide +kernel
theorem d_A_add_29 : decode c_A_add 29 = .ok (.ifCond .eq 5, 3) := by decide +kernel
theorem d_A_add_32 : decode c_A_add 32 = .ok (.iconst 0, 1) := by decide +kernel
theorem d_A_add_33 : decode c_A_add 33 = .ok (.ireturn, 1) := by decide +kernel
theorem d_A_add_34 : decode c_A_add 34 = .ok (.aload_n 0, 1) := by decide +kernel
theorem d_A_add_35 : decode c_A_add 35 = .ok (.getfield 10, 3) := by decide +kernel
theorem d_A_add_38 : decode c_A_add 38 = .ok (.invokevirtual 52, 3) := by decide +kernel
theorem d_A_add_41 : decode c_A_add 41 = .ok (.bipush 80, 2) := by decide +kernel
theorem d_A_add_43 : decode c_A_add 43 = .ok (.if_icmp .lt 13, 3) := by decide +kernel
theorem d_A_add_46 : decode c_A_add 46 = .ok (.new 56, 3) := by decide +kernel
theorem d_A_add_49 : decode c_A_add 49 = .ok (.dup, 1) := by decide +kernel
theorem d_A_add_50 : decode c_A_add 50 = .ok (.ldc 58, 2) := by decide +kernel
theorem d_A_add_52 : decode c_A_add 52 = .ok (.invokespecial 60, 3) := by decide +kernel
theorem d_A_add_55 : decode c_A_add 55 = .ok (.athrow, 1) := by decide +kernel
theorem d_A_add_56 : decode c_A_add 56 = .ok (.aload_n 0, 1) := by decide +kernel
theorem d_A_add_57 : decode c_A_add 57 = .ok (.getfield 10, 3) := by decide +kernel
theorem d_A_add_60 : decode c_A_add 60 = .ok (.iload_n 1, 1) := by decide +kernel
theorem d_A_add_61 : decode c_A_add 61 = .ok (.iload_n 2, 1) := by decide +kernel
theorem d_A_add_62 : decode c_A_add 62 = .ok (.invokevirtual 61, 3) := by decide +kernel
theorem d_A_add_65 : decode c_A_add 65 = .ok (.iconst 1, 1) := by decide +kernel
theorem d_A_add_66 : decode c_A_add 66 = .ok (.ireturn, 1) := by decide +kernel
theorem d_A_requirePlaces_0 : decode c_A_requirePlaces 0 = .ok (.iload_n 0, 1) := by decide +kernel
theorem d_A_requirePlaces_1 : decode c_A_requirePlaces 1 = .ok (.invokestatic 70, 3) := by decide +kernel
theorem d_A_requirePlaces_4 : decode c_A_requirePlaces 4 = .ok (.iload_n 1, 1) := by decide +kernel
theorem d_A_requirePlaces_5 : decode c_A_requirePlaces 5 = .ok (.invokestatic 70, 3) := by decide +kernel
theorem d_A_requirePlaces_8 : decode c_A_requirePlaces 8 = .ok (.return_, 1) := by decide +kernel
theorem d_A_requirePlace_0 : decode c_A_requirePlace 0 = .ok (.iload_n 0, 1) := by decide +kernel
theorem d_A_requirePlace_1 : decode c_A_requirePlace 1 = .ok (.ifCond .lt 9, 3) := by decide +kernel
theorem d_A_requirePlace_4 : decode c_A_requirePlace 4 = .ok (.iload_n 0, 1) := by decide +kernel
theorem d_A_requirePlace_5 : decode c_A_requirePlace 5 = .ok (.bipush 16, 2) := by decide +kernel
theorem d_A_requirePlace_7 : decode c_A_requirePlace 7 = .ok (.if_icmp .lt 13, 3) := by decide +kernel
theorem d_A_requirePlace_10 : decode c_A_requirePlace 10 = .ok (.new 41, 3) := by decide +kernel
theorem d_A_requirePlace_13 : decode c_A_requirePlace 13 = .ok (.dup, 1) := by decide +kernel
theorem d_A_requirePlace_14 : decode c_A_requirePlace 14 = .ok (.ldc 159, 2) := by decide +kernel
theorem d_A_requirePlace_16 : decode c_A_requirePlace 16 = .ok (.invokespecial 45, 3) := by decide +kernel
theorem d_A_requirePlace_19 : decode c_A_requirePlace 19 = .ok (.athrow, 1) := by decide +kernel
theorem d_A_requirePlace_20 : decode c_A_requirePlace 20 = .ok (.return_, 1) := by decide +kernel
theorem d_Web_holds_0 : decode c_Web_holds 0 = .ok (.aload_n 0, 1) := by decide +kernel
theorem d_Web_holds_1 : decode c_Web_holds 1 = .ok (.getfield 9, 3) := by decide +kernel
theorem d_Web_holds_4 : decode c_Web_holds 4 = .ok (.iload_n 1, 1) := by decide +kernel
theorem d_Web_holds_5 : decode c_Web_holds 5 = .ok (.iaload, 1) := by decide +kernel
theorem d_Web_holds_6 : decode c_Web_holds 6 = .ok (.iload_n 2, 1) := by decide +kernel
theorem d_Web_holds_7 : decode c_Web_holds 7 = .ok (.invokestatic 19, 3) := by decide +kernel
theorem d_Web_holds_10 : decode c_Web_holds 10 = .ok (.ireturn, 1) := by decide +kernel
theorem d_A_has_0 : decode c_A_has 0 = .ok (.iload_n 0, 1) := by decide +kernel
theorem d_A_has_1 : decode c_A_has 1 = .ok (.iload_n 1, 1) := by decide +kernel
theorem d_A_has_2 : decode c_A_has 2 = .ok (.iushr, 1) := by decide +kernel
theorem d_A_has_3 : decode c_A_has 3 = .ok (.iconst 1, 1) := by decide +kernel
theorem d_A_has_4 : decode c_A_has 4 = .ok (.iand, 1) := by decide +kernel
theorem d_A_has_5 : decode c_A_has 5 = .ok (.ifCond .eq 7, 3) := by decide +kernel
theorem d_A_has_8 : decode c_A_has 8 = .ok (.iconst 1, 1) := by decide +kernel
theorem d_A_has_9 : decode c_A_has 9 = .ok (.goto 4, 3) := by decide +kernel
theorem d_A_has_12 : decode c_A_has 12 = .ok (.iconst 0, 1) := by decide +kernel
theorem d_A_has_13 : decode c_A_has 13 = .ok (.ireturn, 1) := by decide +kernel
theorem d_Web_put_0 : decode c_Web_put 0 = .ok (.aload_n 0, 1) := by decide +kernel
theorem d_Web_put_1 : decode c_Web_put 1 = .ok (.getfield 9, 3) := by decide +kernel
theorem d_Web_put_4 : decode c_Web_put 4 = .ok (.iload_n 1, 1) := by decide +kernel
theorem d_Web_put_5 : decode c_Web_put 5 = .ok (.dup2, 1) := by decide +kernel
theorem d_Web_put_6 : decode c_Web_put 6 = .ok (.iaload, 1) := by decide +kernel
theorem d_Web_put_7 : decode c_Web_put 7 = .ok (.iload_n 2, 1) := by decide +kernel
theorem d_Web_put_8 : decode c_Web_put 8 = .ok (.invokestatic 23, 3) := by decide +kernel
theorem d_Web_put_11 : decode c_Web_put 11 = .ok (.ior, 1) := by decide +kernel
theorem d_Web_put_12 : decode c_Web_put 12 = .ok (.iastore, 1) := by decide +kernel
theorem d_Web_put_13 : decode c_Web_put 13 = .ok (.aload_n 0, 1) := by decide +kernel
theorem d_Web_put_14 : decode c_Web_put 14 = .ok (.dup, 1) := by decide +kernel
theorem d_Web_put_15 : decode c_Web_put 15 = .ok (.getfield 15, 3) := by decide +kernel
theorem d_Web_put_18 : decode c_Web_put 18 = .ok (.iconst 1, 1) := by decide +kernel
theorem d_Web_put_19 : decode c_Web_put 19 = .ok (.iadd, 1) := by decide +kernel
theorem d_Web_put_20 : decode c_Web_put 20 = .ok (.putfield 15, 3) := by decide +kernel
theorem d_Web_put_23 : decode c_Web_put 23 = .ok (.return_, 1) := by decide +kernel
theorem d_A_only_0 : decode c_A_only 0 = .ok (.iconst 1, 1) := by decide +kernel
theorem d_A_only_1 : decode c_A_only 1 = .ok (.iload_n 0, 1) := by decide +kernel
theorem d_A_only_2 : decode c_A_only 2 = .ok (.ishl, 1) := by decide +kernel
theorem d_A_only_3 : decode c_A_only 3 = .ok (.ireturn, 1) := by decide +kernel
theorem d_A_remove_0 : decode c_A_remove 0 = .ok (.iload_n 1, 1) := by decide +kernel
theorem d_A_remove_1 : decode c_A_remove 1 = .ok (.iload_n 2, 1) := by decide +kernel
theorem d_A_remove_2 : decode c_A_remove 2 = .ok (.invokestatic 37, 3) := by decide +kernel
theorem d_A_remove_5 : decode c_A_remove 5 = .ok (.aload_n 0, 1) := by decide +kernel
theorem d_A_remove_6 : decode c_A_remove 6 = .ok (.getfield 10, 3) := by decide +kernel
theorem d_A_remove_9 : decode c_A_remove 9 = .ok (.iload_n 1, 1) := by decide +kernel
theorem d_A_remove_10 : decode c_A_remove 10 = .ok (.iload_n 2, 1) := by decide +kernel
theorem d_A_remove_11 : decode c_A_remove 11 = .ok (.invokevirtual 48, 3) := by decide +kernel
theorem d_A_remove_14 : decode c_A_remove 14 = .ok (.ifCond .ne 5, 3) := by decide +kernel
theorem d_A_remove_17 : decode c_A_remove 17 = .ok (.iconst 0, 1) := by decide +kernel
theorem d_A_remove_18 : decode c_A_remove 18 = .ok (.ireturn, 1) := by decide +kernel
theorem d_A_remove_19 : decode c_A_remove 19 = .ok (.aload_n 0, 1) := by decide +kernel
theorem d_A_remove_20 : decode c_A_remove 20 = .ok (.getfield 10, 3) := by decide +kernel
theorem d_A_remove_23 : decode c_A_remove 23 = .ok (.iload_n 1, 1) := by decide +kernel
theorem d_A_remove_24 : decode c_A_remove 24 = .ok (.iload_n 2, 1) := by decide +kernel
theorem d_A_remove_25 : decode c_A_remove 25 = .ok (.invokevirtual 64, 3) := by decide +kernel
theorem d_A_remove_28 : decode c_A_remove 28 = .ok (.iconst 1, 1) := by decide +kernel
theorem d_A_remove_29 : decode c_A_remove 29 = .ok (.ireturn, 1) := by decide +kernel
theorem d_Web_take_0 : decode c_Web_take 0 = .ok (.aload_n 0, 1) := by decide +kernel
theorem d_Web_take_1 : decode c_Web_take 1 = .ok (.getfield 9, 3) := by decide +kernel
theorem d_Web_take_4 : decode c_Web_take 4 = .ok (.iload_n 1, 1) := by decide +kernel
theorem d_Web_take_5 : decode c_Web_take 5 = .ok (.dup2, 1) := by decide +kernel
theorem d_Web_take_6 : decode c_Web_take 6 = .ok (.iaload, 1) := by decide +kernel
theorem d_Web_take_7 : decode c_Web_take 7 = .ok (.iload_n 2, 1) := by decide +kernel
theorem d_Web_take_8 : decode c_Web_take 8 = .ok (.invokestatic 23, 3) := by decide +kernel
theorem d_Web_take_11 : decode c_Web_take 11 = .ok (.iconst (-1), 1) := by decide +kernel
theorem d_Web_take_12 : decode c_Web_take 12 = .ok (.ixor, 1) := by decide +kernel
theorem d_Web_take_13 : decode c_Web_take 13 = .ok (.iand, 1) := by decide +kernel
theorem d_Web_take_14 : decode c_Web_take 14 = .ok (.iastore, 1) := by decide +kernel
theorem d_Web_take_15 : decode c_Web_take 15 = .ok (.aload_n 0, 1) := by decide +kernel
theorem d_Web_take_16 : decode c_Web_take 16 = .ok (.dup, 1) := by decide +kernel
theorem d_Web_take_17 : decode c_Web_take 17 = .ok (.getfield 15, 3) := by decide +kernel
theorem d_Web_take_20 : decode c_Web_take 20 = .ok (.iconst 1, 1) := by decide +kernel
theorem d_Web_take_21 : decode c_Web_take 21 = .ok (.isub, 1) := by decide +kernel
theorem d_Web_take_22 : decode c_Web_take 22 = .ok (.putfield 15, 3) := by decide +kernel
theorem d_Web_take_25 : decode c_Web_take 25 = .ok (.return_, 1) := by decide +kernel
theorem d_A_group_0 : decode c_A_group 0 = .ok (.iload_n 1, 1) := by decide +kernel
theorem d_A_group_1 : decode c_A_group 1 = .ok (.invokestatic 70, 3) := by decide +kernel
theorem d_A_group_4 : decode c_A_group 4 = .ok (.aload_n 0, 1) := by decide +kernel
theorem d_A_group_5 : decode c_A_group 5 = .ok (.getfield 19, 3) := by decide +kernel
theorem d_A_group_8 : decode c_A_group 8 = .ok (.aload_n 0, 1) := by decide +kernel
theorem d_A_group_9 : decode c_A_group 9 = .ok (.getfield 10, 3) := by decide +kernel
theorem d_A_group_12 : decode c_A_group 12 = .ok (.invokevirtual 74, 3) := by decide +kernel
theorem d_A_group_15 : decode c_A_group 15 = .ok (.aload_n 0, 1) := by decide +kernel
theorem d_A_group_16 : decode c_A_group 16 = .ok (.getfield 19, 3) := by decide +kernel
theorem d_A_group_19 : decode c_A_group 19 = .ok (.iload_n 1, 1) := by decide +kernel
theorem d_A_group_20 : decode c_A_group 20 = .ok (.invokevirtual 78, 3) := by decide +kernel
theorem d_A_group_23 : decode c_A_group 23 = .ok (.ireturn, 1) := by decide +kernel
theorem d_Web_headsOf_0 : decode c_Web_headsOf 0 = .ok (.aload_n 0, 1) := by decide +kernel
theorem d_Web_headsOf_1 : decode c_Web_headsOf 1 = .ok (.getfield 9, 3) := by decide +kernel
theorem d_Web_headsOf_4 : decode c_Web_headsOf 4 = .ok (.iload_n 1, 1) := by decide +kernel
theorem d_Web_headsOf_5 : decode c_Web_headsOf 5 = .ok (.iaload, 1) := by decide +kernel
theorem d_Web_headsOf_6 : decode c_Web_headsOf 6 = .ok (.ireturn, 1) := by decide +kernel
theorem d_A_members_0 : decode c_A_members 0 = .ok (.iload_n 1, 1) := by decide +kernel
theorem d_A_members_1 : decode c_A_members 1 = .ok (.invokestatic 70, 3) := by decide +kernel
theorem d_A_members_4 : decode c_A_members 4 = .ok (.aload_n 0, 1) := by decide +kernel
theorem d_A_members_5 : decode c_A_members 5 = .ok (.getfield 19, 3) := by decide +kernel
theorem d_A_members_8 : decode c_A_members 8 = .ok (.aload_n 0, 1) := by decide +kernel
theorem d_A_members_9 : decode c_A_members 9 = .ok (.getfield 10, 3) := by decide +kernel
theorem d_A_members_12 : decode c_A_members 12 = .ok (.invokevirtual 74, 3) := by decide +kernel
theorem d_A_members_15 : decode c_A_members 15 = .ok (.aload_n 0, 1) := by decide +kernel
theorem d_A_members_16 : decode c_A_members 16 = .ok (.getfield 19, 3) := by decide +kernel
theorem d_A_members_19 : decode c_A_members 19 = .ok (.iload_n 1, 1) := by decide +kernel
theorem d_A_members_20 : decode c_A_members 20 = .ok (.invokevirtual 82, 3) := by decide +kernel
theorem d_A_members_23 : decode c_A_members 23 = .ok (.ireturn, 1) := by decide +kernel
theorem d_A_rank_0 : decode c_A_rank 0 = .ok (.iload_n 1, 1) := by decide +kernel
theorem d_A_rank_1 : decode c_A_rank 1 = .ok (.invokestatic 70, 3) := by decide +kernel
theorem d_A_rank_4 : decode c_A_rank 4 = .ok (.aload_n 0, 1) := by decide +kernel
theorem d_A_rank_5 : decode c_A_rank 5 = .ok (.getfield 19, 3) := by decide +kernel
theorem d_A_rank_8 : decode c_A_rank 8 = .ok (.aload_n 0, 1) := by decide +kernel
theorem d_A_rank_9 : decode c_A_rank 9 = .ok (.getfield 10, 3) := by decide +kernel
theorem d_A_rank_12 : decode c_A_rank 12 = .ok (.invokevirtual 74, 3) := by decide +kernel
theorem d_A_rank_15 : decode c_A_rank 15 = .ok (.aload_n 0, 1) := by decide +kernel
theorem d_A_rank_16 : decode c_A_rank 16 = .ok (.getfield 19, 3) := by decide +kernel
theorem d_A_rank_19 : decode c_A_rank 19 = .ok (.iload_n 1, 1) := by decide +kernel
theorem d_A_rank_20 : decode c_A_rank 20 = .ok (.invokevirtual 85, 3) := by decide +kernel
theorem d_A_rank_23 : decode c_A_rank 23 = .ok (.ireturn, 1) := by decide +kernel
theorem d_A_ranked_0 : decode c_A_ranked 0 = .ok (.aload_n 0, 1) := by decide +kernel
theorem d_A_ranked_1 : decode c_A_ranked 1 = .ok (.getfield 19, 3) := by decide +kernel
theorem d_A_ranked_4 : decode c_A_ranked 4 = .ok (.aload_n 0, 1) := by decide +kernel
theorem d_A_ranked_5 : decode c_A_ranked 5 = .ok (.getfield 10, 3) := by decide +kernel
theorem d_A_ranked_8 : decode c_A_ranked 8 = .ok (.invokevirtual 74, 3) := by decide +kernel
theorem d_A_ranked_11 : decode c_A_ranked 11 = .ok (.iload_n 1, 1) := by decide +kernel
theorem d_A_ranked_12 : decode c_A_ranked 12 = .ok (.ifCond .lt 14, 3) := by decide +kernel
theorem d_A_ranked_15 : decode c_A_ranked 15 = .ok (.iload_n 1, 1) := by decide +kernel
theorem d_A_ranked_16 : decode c_A_ranked 16 = .ok (.aload_n 0, 1) := by decide +kernel
theorem d_A_ranked_17 : decode c_A_ranked 17 = .ok (.getfield 19, 3) := by decide +kernel
theorem d_A_ranked_20 : decode c_A_ranked 20 = .ok (.invokevirtual 88, 3) := by decide +kernel
theorem d_A_ranked_23 : decode c_A_ranked 23 = .ok (.if_icmp .lt 13, 3) := by decide +kernel
theorem d_A_ranked_26 : decode c_A_ranked 26 = .ok (.new 89, 3) := by decide +kernel
theorem d_A_ranked_29 : decode c_A_ranked 29 = .ok (.dup, 1) := by decide +kernel
theorem d_A_ranked_30 : decode c_A_ranked 30 = .ok (.ldc 91, 2) := by decide +kernel
theorem d_A_ranked_32 : decode c_A_ranked 32 = .ok (.invokespecial 93, 3) := by decide +kernel
theorem d_A_ranked_35 : decode c_A_ranked 35 = .ok (.athrow, 1) := by decide +kernel
theorem d_A_ranked_36 : decode c_A_ranked 36 = .ok (.aload_n 0, 1) := by decide +kernel
theorem d_A_ranked_37 : decode c_A_ranked 37 = .ok (.getfield 19, 3) := by decide +kernel
theorem d_A_ranked_40 : decode c_A_ranked 40 = .ok (.iload_n 1, 1) := by decide +kernel
theorem d_A_ranked_41 : decode c_A_ranked 41 = .ok (.invokevirtual 94, 3) := by decide +kernel
theorem d_A_ranked_44 : decode c_A_ranked 44 = .ok (.ireturn, 1) := by decide +kernel
theorem d_A_reaches_0 : decode c_A_reaches 0 = .ok (.iload_n 1, 1) := by decide +kernel
theorem d_A_reaches_1 : decode c_A_reaches 1 = .ok (.iload_n 2, 1) := by decide +kernel
theorem d_A_reaches_2 : decode c_A_reaches 2 = .ok (.invokestatic 37, 3) := by decide +kernel
theorem d_A_reaches_5 : decode c_A_reaches 5 = .ok (.aload_n 0, 1) := by decide +kernel
theorem d_A_reaches_6 : decode c_A_reaches 6 = .ok (.getfield 10, 3) := by decide +kernel
theorem d_A_reaches_9 : decode c_A_reaches 9 = .ok (.iload_n 1, 1) := by decide +kernel
theorem d_A_reaches_10 : decode c_A_reaches 10 = .ok (.invokestatic 97, 3) := by decide +kernel
theorem d_A_reaches_13 : decode c_A_reaches 13 = .ok (.iconst 0, 1) := by decide +kernel
theorem d_A_reaches_14 : decode c_A_reaches 14 = .ok (.invokevirtual 100, 3) := by decide +kernel
theorem d_A_reaches_17 : decode c_A_reaches 17 = .ok (.iload_n 2, 1) := by decide +kernel
theorem d_A_reaches_18 : decode c_A_reaches 18 = .ok (.invokestatic 104, 3) := by decide +kernel
theorem d_A_reaches_21 : decode c_A_reaches 21 = .ok (.ireturn, 1) := by decide +kernel
theorem d_Web_spread_0 : decode c_Web_spread 0 = .ok (.iload_n 1, 1) := by decide +kernel
theorem d_Web_spread_1 : decode c_Web_spread 1 = .ok (.iload_n 2, 1) := by decide +kernel
theorem d_Web_spread_2 : decode c_Web_spread 2 = .ok (.iconst (-1), 1) := by decide +kernel
theorem d_Web_spread_3 : decode c_Web_spread 3 = .ok (.ixor, 1) := by decide +kernel
theorem d_Web_spread_4 : decode c_Web_spread 4 = .ok (.iand, 1) := by decide +kernel
theorem d_Web_spread_5 : decode c_Web_spread 5 = .ok (.istore_n 3, 1) := by decide +kernel
theorem d_Web_spread_6 : decode c_Web_spread 6 = .ok (.iconst 1, 1) := by decide +kernel
theorem d_Web_spread_7 : decode c_Web_spread 7 = .ok (.istore 4, 2) := by decide +kernel
theorem d_Web_spread_9 : decode c_Web_spread 9 = .ok (.iload 4, 2) := by decide +kernel
theorem d_Web_spread_11 : decode c_Web_spread 11 = .ok (.bipush 16, 2) := by decide +kernel
theorem d_Web_spread_13 : decode c_Web_spread 13 = .ok (.if_icmp .ge 34, 3) := by decide +kernel
theorem d_Web_spread_16 : decode c_Web_spread 16 = .ok (.iload_n 3, 1) := by decide +kernel
theorem d_Web_spread_17 : decode c_Web_spread 17 = .ok (.aload_n 0, 1) := by decide +kernel
theorem d_Web_spread_18 : decode c_Web_spread 18 = .ok (.iload_n 3, 1) := by decide +kernel
theorem d_Web_spread_19 : decode c_Web_spread 19 = .ok (.invokevirtual 33, 3) := by decide +kernel
theorem d_Web_spread_22 : decode c_Web_spread 22 = .ok (.iload_n 2, 1) := by decide +kernel
theorem d_Web_spread_23 : decode c_Web_spread 23 = .ok (.iconst (-1), 1) := by decide +kernel
theorem d_Web_spread_24 : decode c_Web_spread 24 = .ok (.ixor, 1) := by decide +kernel
theorem d_Web_spread_25 : decode c_Web_spread 25 = .ok (.iand, 1) := by decide +kernel
theorem d_Web_spread_26 : decode c_Web_spread 26 = .ok (.ior, 1) := by decide +kernel
theorem d_Web_spread_27 : decode c_Web_spread 27 = .ok (.istore 5, 2) := by decide +kernel
theorem d_Web_spread_29 : decode c_Web_spread 29 = .ok (.iload 5, 2) := by decide +kernel
theorem d_Web_spread_31 : decode c_Web_spread 31 = .ok (.iload_n 3, 1) := by decide +kernel
theorem d_Web_spread_32 : decode c_Web_spread 32 = .ok (.if_icmp .ne 6, 3) := by decide +kernel
theorem d_Web_spread_35 : decode c_Web_spread 35 = .ok (.goto 12, 3) := by decide +kernel
theorem d_Web_spread_38 : decode c_Web_spread 38 = .ok (.iload 5, 2) := by decide +kernel
theorem d_Web_spread_40 : decode c_Web_spread 40 = .ok (.istore_n 3, 1) := by decide +kernel
theorem d_Web_spread_41 : decode c_Web_spread 41 = .ok (.iinc 4 1, 3) := by decide +kernel
theorem d_Web_spread_44 : decode c_Web_spread 44 = .ok (.goto (-35), 3) := by decide +kernel
theorem d_Web_spread_47 : decode c_Web_spread 47 = .ok (.iload_n 3, 1) := by decide +kernel
theorem d_Web_spread_48 : decode c_Web_spread 48 = .ok (.ireturn, 1) := by decide +kernel
theorem d_Web_headsOfAll_0 : decode c_Web_headsOfAll 0 = .ok (.iconst 0, 1) := by decide +kernel
theorem d_Web_headsOfAll_1 : decode c_Web_headsOfAll 1 = .ok (.istore_n 2, 1) := by decide +kernel
theorem d_Web_headsOfAll_2 : decode c_Web_headsOfAll 2 = .ok (.iconst 0, 1) := by decide +kernel
theorem d_Web_headsOfAll_3 : decode c_Web_headsOfAll 3 = .ok (.istore_n 3, 1) := by decide +kernel
theorem d_Web_headsOfAll_4 : decode c_Web_headsOfAll 4 = .ok (.iload_n 3, 1) := by decide +kernel
theorem d_Web_headsOfAll_5 : decode c_Web_headsOfAll 5 = .ok (.bipush 16, 2) := by decide +kernel
theorem d_Web_headsOfAll_7 : decode c_Web_headsOfAll 7 = .ok (.if_icmp .ge 26, 3) := by decide +kernel
theorem d_Web_headsOfAll_10 : decode c_Web_headsOfAll 10 = .ok (.iload_n 1, 1) := by decide +kernel
theorem d_Web_headsOfAll_11 : decode c_Web_headsOfAll 11 = .ok (.iload_n 3, 1) := by decide +kernel
theorem d_Web_headsOfAll_12 : decode c_Web_headsOfAll 12 = .ok (.invokestatic 19, 3) := by decide +kernel
theorem d_Web_headsOfAll_15 : decode c_Web_headsOfAll 15 = .ok (.ifCond .eq 12, 3) := by decide +kernel
theorem d_Web_headsOfAll_18 : decode c_Web_headsOfAll 18 = .ok (.iload_n 2, 1) := by decide +kernel
theorem d_Web_headsOfAll_19 : decode c_Web_headsOfAll 19 = .ok (.aload_n 0, 1) := by decide +kernel
theorem d_Web_headsOfAll_20 : decode c_Web_headsOfAll 20 = .ok (.getfield 9, 3) := by decide +kernel
theorem d_Web_headsOfAll_23 : decode c_Web_headsOfAll 23 = .ok (.iload_n 3, 1) := by decide +kernel
theorem d_Web_headsOfAll_24 : decode c_Web_headsOfAll 24 = .ok (.iaload, 1) := by decide +kernel
theorem d_Web_headsOfAll_25 : decode c_Web_headsOfAll 25 = .ok (.ior, 1) := by decide +kernel
theorem d_Web_headsOfAll_26 : decode c_Web_headsOfAll 26 = .ok (.istore_n 2, 1) := by decide +kernel
theorem d_Web_headsOfAll_27 : decode c_Web_headsOfAll 27 = .ok (.iinc 3 1, 3) := by decide +kernel
theorem d_Web_headsOfAll_30 : decode c_Web_headsOfAll 30 = .ok (.goto (-26), 3) := by decide +kernel
theorem d_Web_headsOfAll_33 : decode c_Web_headsOfAll 33 = .ok (.iload_n 2, 1) := by decide +kernel
theorem d_Web_headsOfAll_34 : decode c_Web_headsOfAll 34 = .ok (.ireturn, 1) := by decide +kernel
theorem d_A_distance_0 : decode c_A_distance 0 = .ok (.iload_n 1, 1) := by decide +kernel
theorem d_A_distance_1 : decode c_A_distance 1 = .ok (.iload_n 2, 1) := by decide +kernel
theorem d_A_distance_2 : decode c_A_distance 2 = .ok (.invokestatic 37, 3) := by decide +kernel
theorem d_A_distance_5 : decode c_A_distance 5 = .ok (.aload_n 0, 1) := by decide +kernel
theorem d_A_distance_6 : decode c_A_distance 6 = .ok (.getfield 26, 3) := by decide +kernel
theorem d_A_distance_9 : decode c_A_distance 9 = .ok (.iload_n 2, 1) := by decide +kernel
theorem d_A_distance_10 : decode c_A_distance 10 = .ok (.aload_n 0, 1) := by decide +kernel
theorem d_A_distance_11 : decode c_A_distance 11 = .ok (.getfield 10, 3) := by decide +kernel
theorem d_A_distance_14 : decode c_A_distance 14 = .ok (.invokevirtual 107, 3) := by decide +kernel
theorem d_A_distance_17 : decode c_A_distance 17 = .ok (.aload_n 0, 1) := by decide +kernel
theorem d_A_distance_18 : decode c_A_distance 18 = .ok (.getfield 26, 3) := by decide +kernel
theorem d_A_distance_21 : decode c_A_distance 21 = .ok (.iload_n 1, 1) := by decide +kernel
theorem d_A_distance_22 : decode c_A_distance 22 = .ok (.invokevirtual 111, 3) := by decide +kernel
theorem d_A_distance_25 : decode c_A_distance 25 = .ok (.ireturn, 1) := by decide +kernel
theorem d_A_way_0 : decode c_A_way 0 = .ok (.iload_n 1, 1) := by decide +kernel
theorem d_A_way_1 : decode c_A_way 1 = .ok (.iload_n 2, 1) := by decide +kernel
theorem d_A_way_2 : decode c_A_way 2 = .ok (.invokestatic 37, 3) := by decide +kernel
theorem d_A_way_5 : decode c_A_way 5 = .ok (.aload_n 0, 1) := by decide +kernel
theorem d_A_way_6 : decode c_A_way 6 = .ok (.getfield 26, 3) := by decide +kernel
theorem d_A_way_9 : decode c_A_way 9 = .ok (.iload_n 2, 1) := by decide +kernel
theorem d_A_way_10 : decode c_A_way 10 = .ok (.aload_n 0, 1) := by decide +kernel
theorem d_A_way_11 : decode c_A_way 11 = .ok (.getfield 10, 3) := by decide +kernel
theorem d_A_way_14 : decode c_A_way 14 = .ok (.invokevirtual 107, 3) := by decide +kernel
theorem d_A_way_17 : decode c_A_way 17 = .ok (.aload_n 0, 1) := by decide +kernel
theorem d_A_way_18 : decode c_A_way 18 = .ok (.getfield 26, 3) := by decide +kernel
theorem d_A_way_21 : decode c_A_way 21 = .ok (.iload_n 1, 1) := by decide +kernel
theorem d_A_way_22 : decode c_A_way 22 = .ok (.invokevirtual 111, 3) := by decide +kernel
theorem d_A_way_25 : decode c_A_way 25 = .ok (.istore 4, 2) := by decide +kernel
theorem d_A_way_27 : decode c_A_way 27 = .ok (.iload 4, 2) := by decide +kernel
theorem d_A_way_29 : decode c_A_way 29 = .ok (.iconst (-1), 1) := by decide +kernel
theorem d_A_way_30 : decode c_A_way 30 = .ok (.if_icmp .ne 13, 3) := by decide +kernel
theorem d_A_way_33 : decode c_A_way 33 = .ok (.new 114, 3) := by decide +kernel
theorem d_A_way_36 : decode c_A_way 36 = .ok (.dup, 1) := by decide +kernel
theorem d_A_way_37 : decode c_A_way 37 = .ok (.ldc 116, 2) := by decide +kernel
theorem d_A_way_39 : decode c_A_way 39 = .ok (.invokespecial 118, 3) := by decide +kernel
theorem d_A_way_42 : decode c_A_way 42 = .ok (.athrow, 1) := by decide +kernel
theorem d_A_way_43 : decode c_A_way 43 = .ok (.iload_n 3, 1) := by decide +kernel
theorem d_A_way_44 : decode c_A_way 44 = .ok (.ifCond .lt 9, 3) := by decide +kernel
theorem d_A_way_47 : decode c_A_way 47 = .ok (.iload_n 3, 1) := by decide +kernel
theorem d_A_way_48 : decode c_A_way 48 = .ok (.iload 4, 2) := by decide +kernel
theorem d_A_way_50 : decode c_A_way 50 = .ok (.if_icmp .le 13, 3) := by decide +kernel
theorem d_A_way_53 : decode c_A_way 53 = .ok (.new 89, 3) := by decide +kernel
theorem d_A_way_56 : decode c_A_way 56 = .ok (.dup, 1) := by decide +kernel
theorem d_A_way_57 : decode c_A_way 57 = .ok (.ldc 119, 2) := by decide +kernel
theorem d_A_way_59 : decode c_A_way 59 = .ok (.invokespecial 93, 3) := by decide +kernel
theorem d_A_way_62 : decode c_A_way 62 = .ok (.athrow, 1) := by decide +kernel
theorem d_A_way_63 : decode c_A_way 63 = .ok (.aload_n 0, 1) := by decide +kernel
theorem d_A_way_64 : decode c_A_way 64 = .ok (.getfield 26, 3) := by decide +kernel
theorem d_A_way_67 : decode c_A_way 67 = .ok (.iload_n 1, 1) := by decide +kernel
theorem d_A_way_68 : decode c_A_way 68 = .ok (.iload 4, 2) := by decide +kernel
theorem d_A_way_70 : decode c_A_way 70 = .ok (.iload_n 3, 1) := by decide +kernel
theorem d_A_way_71 : decode c_A_way 71 = .ok (.aload_n 0, 1) := by decide +kernel
theorem d_A_way_72 : decode c_A_way 72 = .ok (.getfield 10, 3) := by decide +kernel
theorem d_A_way_75 : decode c_A_way 75 = .ok (.invokevirtual 121, 3) := by decide +kernel
theorem d_A_way_78 : decode c_A_way 78 = .ok (.ireturn, 1) := by decide +kernel
theorem d_A_gate_0 : decode c_A_gate 0 = .ok (.iload_n 1, 1) := by decide +kernel
theorem d_A_gate_1 : decode c_A_gate 1 = .ok (.iload_n 2, 1) := by decide +kernel
theorem d_A_gate_2 : decode c_A_gate 2 = .ok (.invokestatic 37, 3) := by decide +kernel
theorem d_A_gate_5 : decode c_A_gate 5 = .ok (.iload_n 1, 1) := by decide +kernel
theorem d_A_gate_6 : decode c_A_gate 6 = .ok (.iload_n 2, 1) := by decide +kernel
theorem d_A_gate_7 : decode c_A_gate 7 = .ok (.if_icmp .ne 5, 3) := by decide +kernel
theorem d_A_gate_10 : decode c_A_gate 10 = .ok (.iconst (-1), 1) := by decide +kernel
theorem d_A_gate_11 : decode c_A_gate 11 = .ok (.ireturn, 1) := by decide +kernel
theorem d_A_gate_12 : decode c_A_gate 12 = .ok (.aload_n 0, 1) := by decide +kernel
theorem d_A_gate_13 : decode c_A_gate 13 = .ok (.getfield 10, 3) := by decide +kernel
theorem d_A_gate_16 : decode c_A_gate 16 = .ok (.iload_n 1, 1) := by decide +kernel
theorem d_A_gate_17 : decode c_A_gate 17 = .ok (.invokestatic 97, 3) := by decide +kernel
theorem d_A_gate_20 : decode c_A_gate 20 = .ok (.iconst 0, 1) := by decide +kernel
theorem d_A_gate_21 : decode c_A_gate 21 = .ok (.invokevirtual 100, 3) := by decide +kernel
theorem d_A_gate_24 : decode c_A_gate 24 = .ok (.iload_n 2, 1) := by decide +kernel
theorem d_A_gate_25 : decode c_A_gate 25 = .ok (.invokestatic 104, 3) := by decide +kernel
theorem d_A_gate_28 : decode c_A_gate 28 = .ok (.ifCond .ne 13, 3) := by decide +kernel
theorem d_A_gate_31 : decode c_A_gate 31 = .ok (.new 114, 3) := by decide +kernel
theorem d_A_gate_34 : decode c_A_gate 34 = .ok (.dup, 1) := by decide +kernel
theorem d_A_gate_35 : decode c_A_gate 35 = .ok (.ldc 116, 2) := by decide +kernel
theorem d_A_gate_37 : decode c_A_gate 37 = .ok (.invokespecial 118, 3) := by decide +kernel
theorem d_A_gate_40 : decode c_A_gate 40 = .ok (.athrow, 1) := by decide +kernel
theorem d_A_gate_41 : decode c_A_gate 41 = .ok (.aload_n 0, 1) := by decide +kernel
theorem d_A_gate_42 : decode c_A_gate 42 = .ok (.iload_n 1, 1) := by decide +kernel
theorem d_A_gate_43 : decode c_A_gate 43 = .ok (.iload_n 2, 1) := by decide +kernel
theorem d_A_gate_44 : decode c_A_gate 44 = .ok (.invokevirtual 125, 3) := by decide +kernel
theorem d_A_gate_47 : decode c_A_gate 47 = .ok (.ireturn, 1) := by decide +kernel
theorem d_A_lastBefore_0 : decode c_A_lastBefore 0 = .ok (.iconst 0, 1) := by decide +kernel
theorem d_A_lastBefore_1 : decode c_A_lastBefore 1 = .ok (.istore_n 3, 1) := by decide +kernel
theorem d_A_lastBefore_2 : decode c_A_lastBefore 2 = .ok (.iconst 0, 1) := by decide +kernel
theorem d_A_lastBefore_3 : decode c_A_lastBefore 3 = .ok (.istore 4, 2) := by decide +kernel
theorem d_A_lastBefore_5 : decode c_A_lastBefore 5 = .ok (.iload 4, 2) := by decide +kernel
theorem d_A_lastBefore_7 : decode c_A_lastBefore 7 = .ok (.bipush 16, 2) := by decide +kernel
theorem d_A_lastBefore_9 : decode c_A_lastBefore 9 = .ok (.if_icmp .ge 46, 3) := by decide +kernel
theorem d_A_lastBefore_12 : decode c_A_lastBefore 12 = .ok (.iload 4, 2) := by decide +kernel
theorem d_A_lastBefore_14 : decode c_A_lastBefore 14 = .ok (.iload_n 2, 1) := by decide +kernel
theorem d_A_lastBefore_15 : decode c_A_lastBefore 15 = .ok (.if_icmp .eq 34, 3) := by decide +kernel
theorem d_A_lastBefore_18 : decode c_A_lastBefore 18 = .ok (.aload_n 0, 1) := by decide +kernel
theorem d_A_lastBefore_19 : decode c_A_lastBefore 19 = .ok (.getfield 10, 3) := by decide +kernel
theorem d_A_lastBefore_22 : decode c_A_lastBefore 22 = .ok (.iload_n 1, 1) := by decide +kernel
theorem d_A_lastBefore_23 : decode c_A_lastBefore 23 = .ok (.invokestatic 97, 3) := by decide +kernel
theorem d_A_lastBefore_26 : decode c_A_lastBefore 26 = .ok (.iload 4, 2) := by decide +kernel
theorem d_A_lastBefore_28 : decode c_A_lastBefore 28 = .ok (.invokestatic 97, 3) := by decide +kernel
theorem d_A_lastBefore_31 : decode c_A_lastBefore 31 = .ok (.invokevirtual 100, 3) := by decide +kernel
theorem d_A_lastBefore_34 : decode c_A_lastBefore 34 = .ok (.iload_n 2, 1) := by decide +kernel
theorem d_A_lastBefore_35 : decode c_A_lastBefore 35 = .ok (.invokestatic 104, 3) := by decide +kernel
theorem d_A_lastBefore_38 : decode c_A_lastBefore 38 = .ok (.ifCond .ne 11, 3) := by decide +kernel
theorem d_A_lastBefore_41 : decode c_A_lastBefore 41 = .ok (.iload_n 3, 1) := by decide +kernel
theorem d_A_lastBefore_42 : decode c_A_lastBefore 42 = .ok (.iload 4, 2) := by decide +kernel
theorem d_A_lastBefore_44 : decode c_A_lastBefore 44 = .ok (.invokestatic 97, 3) := by decide +kernel
theorem d_A_lastBefore_47 : decode c_A_lastBefore 47 = .ok (.ior, 1) := by decide +kernel
theorem d_A_lastBefore_48 : decode c_A_lastBefore 48 = .ok (.istore_n 3, 1) := by decide +kernel
theorem d_A_lastBefore_49 : decode c_A_lastBefore 49 = .ok (.iinc 4 1, 3) := by decide +kernel
theorem d_A_lastBefore_52 : decode c_A_lastBefore 52 = .ok (.goto (-47), 3) := by decide +kernel
theorem d_A_lastBefore_55 : decode c_A_lastBefore 55 = .ok (.iconst 0, 1) := by decide +kernel
theorem d_A_lastBefore_56 : decode c_A_lastBefore 56 = .ok (.istore 4, 2) := by decide +kernel
theorem d_A_lastBefore_58 : decode c_A_lastBefore 58 = .ok (.iload 4, 2) := by decide +kernel
theorem d_A_lastBefore_60 : decode c_A_lastBefore 60 = .ok (.bipush 16, 2) := by decide +kernel
theorem d_A_lastBefore_62 : decode c_A_lastBefore 62 = .ok (.if_icmp .ge 40, 3) := by decide +kernel
theorem d_A_lastBefore_65 : decode c_A_lastBefore 65 = .ok (.iload_n 3, 1) := by decide +kernel
theorem d_A_lastBefore_66 : decode c_A_lastBefore 66 = .ok (.iload 4, 2) := by decide +kernel
theorem d_A_lastBefore_68 : decode c_A_lastBefore 68 = .ok (.invokestatic 104, 3) := by decide +kernel
theorem d_A_lastBefore_71 : decode c_A_lastBefore 71 = .ok (.ifCond .eq 25, 3) := by decide +kernel
theorem d_A_lastBefore_74 : decode c_A_lastBefore 74 = .ok (.aload_n 0, 1) := by decide +kernel
theorem d_A_lastBefore_75 : decode c_A_lastBefore 75 = .ok (.iload_n 1, 1) := by decide +kernel
theorem d_A_lastBefore_76 : decode c_A_lastBefore 76 = .ok (.iload 4, 2) := by decide +kernel
theorem d_A_lastBefore_78 : decode c_A_lastBefore 78 = .ok (.iload_n 3, 1) := by decide +kernel
theorem d_A_lastBefore_79 : decode c_A_lastBefore 79 = .ok (.iload 4, 2) := by decide +kernel
theorem d_A_lastBefore_81 : decode c_A_lastBefore 81 = .ok (.invokestatic 97, 3) := by decide +kernel
theorem d_A_lastBefore_84 : decode c_A_lastBefore 84 = .ok (.iconst (-1), 1) := by decide +kernel
theorem d_A_lastBefore_85 : decode c_A_lastBefore 85 = .ok (.ixor, 1) := by decide +kernel
theorem d_A_lastBefore_86 : decode c_A_lastBefore 86 = .ok (.iand, 1) := by decide +kernel
theorem d_A_lastBefore_87 : decode c_A_lastBefore 87 = .ok (.invokevirtual 161, 3) := by decide +kernel
theorem d_A_lastBefore_90 : decode c_A_lastBefore 90 = .ok (.ifCond .eq 6, 3) := by decide +kernel
theorem d_A_lastBefore_93 : decode c_A_lastBefore 93 = .ok (.iload 4, 2) := by decide +kernel
theorem d_A_lastBefore_95 : decode c_A_lastBefore 95 = .ok (.ireturn, 1) := by decide +kernel
theorem d_A_lastBefore_96 : decode c_A_lastBefore 96 = .ok (.iinc 4 1, 3) := by decide +kernel
theorem d_A_lastBefore_99 : decode c_A_lastBefore 99 = .ok (.goto (-41), 3) := by decide +kernel
theorem d_A_lastBefore_102 : decode c_A_lastBefore 102 = .ok (.iload_n 1, 1) := by decide +kernel
theorem d_A_lastBefore_103 : decode c_A_lastBefore 103 = .ok (.ireturn, 1) := by decide +kernel
theorem d_A_needsAll_0 : decode c_A_needsAll 0 = .ok (.iconst 0, 1) := by decide +kernel
theorem d_A_needsAll_1 : decode c_A_needsAll 1 = .ok (.istore 4, 2) := by decide +kernel
theorem d_A_needsAll_3 : decode c_A_needsAll 3 = .ok (.iload 4, 2) := by decide +kernel
theorem d_A_needsAll_5 : decode c_A_needsAll 5 = .ok (.bipush 16, 2) := by decide +kernel
theorem d_A_needsAll_7 : decode c_A_needsAll 7 = .ok (.if_icmp .ge 43, 3) := by decide +kernel
theorem d_A_needsAll_10 : decode c_A_needsAll 10 = .ok (.iload_n 3, 1) := by decide +kernel
theorem d_A_needsAll_11 : decode c_A_needsAll 11 = .ok (.iload 4, 2) := by decide +kernel
theorem d_A_needsAll_13 : decode c_A_needsAll 13 = .ok (.invokestatic 104, 3) := by decide +kernel
theorem d_A_needsAll_16 : decode c_A_needsAll 16 = .ok (.ifCond .eq 28, 3) := by decide +kernel
theorem d_A_needsAll_19 : decode c_A_needsAll 19 = .ok (.aload_n 0, 1) := by decide +kernel
theorem d_A_needsAll_20 : decode c_A_needsAll 20 = .ok (.getfield 10, 3) := by decide +kernel
theorem d_A_needsAll_23 : decode c_A_needsAll 23 = .ok (.iload_n 1, 1) := by decide +kernel
theorem d_A_needsAll_24 : decode c_A_needsAll 24 = .ok (.invokestatic 97, 3) := by decide +kernel
theorem d_A_needsAll_27 : decode c_A_needsAll 27 = .ok (.iload 4, 2) := by decide +kernel
theorem d_A_needsAll_29 : decode c_A_needsAll 29 = .ok (.invokestatic 97, 3) := by decide +kernel
theorem d_A_needsAll_32 : decode c_A_needsAll 32 = .ok (.invokevirtual 100, 3) := by decide +kernel
theorem d_A_needsAll_35 : decode c_A_needsAll 35 = .ok (.iload_n 2, 1) := by decide +kernel
theorem d_A_needsAll_36 : decode c_A_needsAll 36 = .ok (.invokestatic 104, 3) := by decide +kernel
theorem d_A_needsAll_39 : decode c_A_needsAll 39 = .ok (.ifCond .eq 5, 3) := by decide +kernel
theorem d_A_needsAll_42 : decode c_A_needsAll 42 = .ok (.iconst 0, 1) := by decide +kernel
theorem d_A_needsAll_43 : decode c_A_needsAll 43 = .ok (.ireturn, 1) := by decide +kernel
theorem d_A_needsAll_44 : decode c_A_needsAll 44 = .ok (.iinc 4 1, 3) := by decide +kernel
theorem d_A_needsAll_47 : decode c_A_needsAll 47 = .ok (.goto (-44), 3) := by decide +kernel
theorem d_A_needsAll_50 : decode c_A_needsAll 50 = .ok (.iconst 1, 1) := by decide +kernel
theorem d_A_needsAll_51 : decode c_A_needsAll 51 = .ok (.ireturn, 1) := by decide +kernel
theorem d_A_gated_0 : decode c_A_gated 0 = .ok (.iload_n 1, 1) := by decide +kernel
theorem d_A_gated_1 : decode c_A_gated 1 = .ok (.iload_n 2, 1) := by decide +kernel
theorem d_A_gated_2 : decode c_A_gated 2 = .ok (.invokestatic 37, 3) := by decide +kernel
theorem d_A_gated_5 : decode c_A_gated 5 = .ok (.aload_n 0, 1) := by decide +kernel
theorem d_A_gated_6 : decode c_A_gated 6 = .ok (.getfield 10, 3) := by decide +kernel
theorem d_A_gated_9 : decode c_A_gated 9 = .ok (.iload_n 1, 1) := by decide +kernel
theorem d_A_gated_10 : decode c_A_gated 10 = .ok (.invokestatic 97, 3) := by decide +kernel
theorem d_A_gated_13 : decode c_A_gated 13 = .ok (.iconst 0, 1) := by decide +kernel
theorem d_A_gated_14 : decode c_A_gated 14 = .ok (.invokevirtual 100, 3) := by decide +kernel
theorem d_A_gated_17 : decode c_A_gated 17 = .ok (.istore_n 3, 1) := by decide +kernel
theorem d_A_gated_18 : decode c_A_gated 18 = .ok (.aload_n 0, 1) := by decide +kernel
theorem d_A_gated_19 : decode c_A_gated 19 = .ok (.getfield 10, 3) := by decide +kernel
theorem d_A_gated_22 : decode c_A_gated 22 = .ok (.iload_n 1, 1) := by decide +kernel
theorem d_A_gated_23 : decode c_A_gated 23 = .ok (.invokestatic 97, 3) := by decide +kernel
theorem d_A_gated_26 : decode c_A_gated 26 = .ok (.iload_n 2, 1) := by decide +kernel
theorem d_A_gated_27 : decode c_A_gated 27 = .ok (.invokestatic 97, 3) := by decide +kernel
theorem d_A_gated_30 : decode c_A_gated 30 = .ok (.invokevirtual 100, 3) := by decide +kernel
theorem d_A_gated_33 : decode c_A_gated 33 = .ok (.istore 4, 2) := by decide +kernel
theorem d_A_gated_35 : decode c_A_gated 35 = .ok (.iload_n 3, 1) := by decide +kernel
theorem d_A_gated_36 : decode c_A_gated 36 = .ok (.iload 4, 2) := by decide +kernel
theorem d_A_gated_38 : decode c_A_gated 38 = .ok (.iconst (-1), 1) := by decide +kernel
theorem d_A_gated_39 : decode c_A_gated 39 = .ok (.ixor, 1) := by decide +kernel
theorem d_A_gated_40 : decode c_A_gated 40 = .ok (.iand, 1) := by decide +kernel
theorem d_A_gated_41 : decode c_A_gated 41 = .ok (.invokestatic 128, 3) := by decide +kernel
theorem d_A_gated_44 : decode c_A_gated 44 = .ok (.ireturn, 1) := by decide +kernel
theorem d_A_places_0 : decode c_A_places 0 = .ok (.iload_n 1, 1) := by decide +kernel
theorem d_A_places_1 : decode c_A_places 1 = .ok (.iload_n 2, 1) := by decide +kernel
theorem d_A_places_2 : decode c_A_places 2 = .ok (.invokestatic 37, 3) := by decide +kernel
theorem d_A_places_5 : decode c_A_places 5 = .ok (.iload_n 1, 1) := by decide +kernel
theorem d_A_places_6 : decode c_A_places 6 = .ok (.iload_n 2, 1) := by decide +kernel
theorem d_A_places_7 : decode c_A_places 7 = .ok (.if_icmp .eq 15, 3) := by decide +kernel
theorem d_A_places_10 : decode c_A_places 10 = .ok (.aload_n 0, 1) := by decide +kernel
theorem d_A_places_11 : decode c_A_places 11 = .ok (.getfield 10, 3) := by decide +kernel
theorem d_A_places_14 : decode c_A_places 14 = .ok (.iload_n 1, 1) := by decide +kernel
theorem d_A_places_15 : decode c_A_places 15 = .ok (.iload_n 2, 1) := by decide +kernel
theorem d_A_places_16 : decode c_A_places 16 = .ok (.invokevirtual 48, 3) := by decide +kernel
theorem d_A_places_19 : decode c_A_places 19 = .ok (.ifCond .eq 5, 3) := by decide +kernel
theorem d_A_places_22 : decode c_A_places 22 = .ok (.iconst (-1), 1) := by decide +kernel
theorem d_A_places_23 : decode c_A_places 23 = .ok (.ireturn, 1) := by decide +kernel
theorem d_A_places_24 : decode c_A_places 24 = .ok (.aload_n 0, 1) := by decide +kernel
theorem d_A_places_25 : decode c_A_places 25 = .ok (.getfield 33, 3) := by decide +kernel
theorem d_A_places_28 : decode c_A_places 28 = .ok (.aload_n 0, 1) := by decide +kernel
theorem d_A_places_29 : decode c_A_places 29 = .ok (.getfield 10, 3) := by decide +kernel
theorem d_A_places_32 : decode c_A_places 32 = .ok (.invokevirtual 133, 3) := by decide +kernel
theorem d_A_places_35 : decode c_A_places 35 = .ok (.aload_n 0, 1) := by decide +kernel
theorem d_A_places_36 : decode c_A_places 36 = .ok (.getfield 33, 3) := by decide +kernel
theorem d_A_places_39 : decode c_A_places 39 = .ok (.iload_n 1, 1) := by decide +kernel
theorem d_A_places_40 : decode c_A_places 40 = .ok (.invokestatic 136, 3) := by decide +kernel
theorem d_A_places_43 : decode c_A_places 43 = .ok (.iload_n 2, 1) := by decide +kernel
theorem d_A_places_44 : decode c_A_places 44 = .ok (.invokevirtual 139, 3) := by decide +kernel
theorem d_A_places_47 : decode c_A_places 47 = .ok (.ireturn, 1) := by decide +kernel
theorem d_A_arrows_0 : decode c_A_arrows 0 = .ok (.iload_n 1, 1) := by decide +kernel
theorem d_A_arrows_1 : decode c_A_arrows 1 = .ok (.iload_n 2, 1) := by decide +kernel
theorem d_A_arrows_2 : decode c_A_arrows 2 = .ok (.invokestatic 37, 3) := by decide +kernel
theorem d_A_arrows_5 : decode c_A_arrows 5 = .ok (.iload_n 1, 1) := by decide +kernel
theorem d_A_arrows_6 : decode c_A_arrows 6 = .ok (.iload_n 2, 1) := by decide +kernel
theorem d_A_arrows_7 : decode c_A_arrows 7 = .ok (.if_icmp .ne 5, 3) := by decide +kernel
theorem d_A_arrows_10 : decode c_A_arrows 10 = .ok (.iconst (-1), 1) := by decide +kernel
theorem d_A_arrows_11 : decode c_A_arrows 11 = .ok (.ireturn, 1) := by decide +kernel
theorem d_A_arrows_12 : decode c_A_arrows 12 = .ok (.aload_n 0, 1) := by decide +kernel
theorem d_A_arrows_13 : decode c_A_arrows 13 = .ok (.getfield 33, 3) := by decide +kernel
theorem d_A_arrows_16 : decode c_A_arrows 16 = .ok (.aload_n 0, 1) := by decide +kernel
theorem d_A_arrows_17 : decode c_A_arrows 17 = .ok (.getfield 10, 3) := by decide +kernel
theorem d_A_arrows_20 : decode c_A_arrows 20 = .ok (.invokevirtual 142, 3) := by decide +kernel
theorem d_A_arrows_23 : decode c_A_arrows 23 = .ok (.aload_n 0, 1) := by decide +kernel
theorem d_A_arrows_24 : decode c_A_arrows 24 = .ok (.getfield 33, 3) := by decide +kernel
theorem d_A_arrows_27 : decode c_A_arrows 27 = .ok (.iload_n 1, 1) := by decide +kernel
theorem d_A_arrows_28 : decode c_A_arrows 28 = .ok (.iload_n 2, 1) := by decide +kernel
theorem d_A_arrows_29 : decode c_A_arrows 29 = .ok (.invokevirtual 139, 3) := by decide +kernel
theorem d_A_arrows_32 : decode c_A_arrows 32 = .ok (.ireturn, 1) := by decide +kernel
theorem d_A_figure_0 : decode c_A_figure 0 = .ok (.iload_n 1, 1) := by decide +kernel
theorem d_A_figure_1 : decode c_A_figure 1 = .ok (.ifCond .lt 8, 3) := by decide +kernel
theorem d_A_figure_4 : decode c_A_figure 4 = .ok (.iload_n 1, 1) := by decide +kernel
theorem d_A_figure_5 : decode c_A_figure 5 = .ok (.iconst 5, 1) := by decide +kernel
theorem d_A_figure_6 : decode c_A_figure 6 = .ok (.if_icmp .le 13, 3) := by decide +kernel
theorem d_A_figure_9 : decode c_A_figure 9 = .ok (.new 41, 3) := by decide +kernel
theorem d_A_figure_12 : decode c_A_figure 12 = .ok (.dup, 1) := by decide +kernel
theorem d_A_figure_13 : decode c_A_figure 13 = .ok (.ldc 145, 2) := by decide +kernel
theorem d_A_figure_15 : decode c_A_figure 15 = .ok (.invokespecial 45, 3) := by decide +kernel
theorem d_A_figure_18 : decode c_A_figure 18 = .ok (.athrow, 1) := by decide +kernel
theorem d_A_figure_19 : decode c_A_figure 19 = .ok (.iload_n 1, 1) := by decide +kernel
theorem d_A_figure_20 : decode c_A_figure 20 = .ok (.ifCond .ne 11, 3) := by decide +kernel
theorem d_A_figure_23 : decode c_A_figure 23 = .ok (.aload_n 0, 1) := by decide +kernel
theorem d_A_figure_24 : decode c_A_figure 24 = .ok (.getfield 10, 3) := by decide +kernel
theorem d_A_figure_27 : decode c_A_figure 27 = .ok (.invokevirtual 52, 3) := by decide +kernel
theorem d_A_figure_30 : decode c_A_figure 30 = .ok (.ireturn, 1) := by decide +kernel
theorem d_A_figure_31 : decode c_A_figure 31 = .ok (.iload_n 1, 1) := by decide +kernel
theorem d_A_figure_32 : decode c_A_figure 32 = .ok (.iconst 5, 1) := by decide +kernel
theorem d_A_figure_33 : decode c_A_figure 33 = .ok (.if_icmp .ne 8, 3) := by decide +kernel
theorem d_A_figure_36 : decode c_A_figure 36 = .ok (.aload_n 0, 1) := by decide +kernel
theorem d_A_figure_37 : decode c_A_figure 37 = .ok (.invokevirtual 147, 3) := by decide +kernel
theorem d_A_figure_40 : decode c_A_figure 40 = .ok (.ireturn, 1) := by decide +kernel
theorem d_A_figure_41 : decode c_A_figure 41 = .ok (.aload_n 0, 1) := by decide +kernel
theorem d_A_figure_42 : decode c_A_figure 42 = .ok (.getfield 19, 3) := by decide +kernel
theorem d_A_figure_45 : decode c_A_figure 45 = .ok (.aload_n 0, 1) := by decide +kernel
theorem d_A_figure_46 : decode c_A_figure 46 = .ok (.getfield 10, 3) := by decide +kernel
theorem d_A_figure_49 : decode c_A_figure 49 = .ok (.invokevirtual 74, 3) := by decide +kernel
theorem d_A_figure_52 : decode c_A_figure 52 = .ok (.iload_n 1, 1) := by decide +kernel
theorem d_A_figure_53 : decode c_A_figure 53 = .ok (.tableswitch 51 1 3 #[27, 35, 43], 27) := by decide +kernel
theorem d_A_figure_80 : decode c_A_figure 80 = .ok (.aload_n 0, 1) := by decide +kernel
theorem d_A_figure_81 : decode c_A_figure 81 = .ok (.getfield 19, 3) := by decide +kernel
theorem d_A_figure_84 : decode c_A_figure 84 = .ok (.invokevirtual 88, 3) := by decide +kernel
theorem d_A_figure_87 : decode c_A_figure 87 = .ok (.ireturn, 1) := by decide +kernel
theorem d_A_figure_88 : decode c_A_figure 88 = .ok (.aload_n 0, 1) := by decide +kernel
theorem d_A_figure_89 : decode c_A_figure 89 = .ok (.getfield 19, 3) := by decide +kernel
theorem d_A_figure_92 : decode c_A_figure 92 = .ok (.invokevirtual 150, 3) := by decide +kernel
theorem d_A_figure_95 : decode c_A_figure 95 = .ok (.ireturn, 1) := by decide +kernel
theorem d_A_figure_96 : decode c_A_figure 96 = .ok (.aload_n 0, 1) := by decide +kernel
theorem d_A_figure_97 : decode c_A_figure 97 = .ok (.getfield 19, 3) := by decide +kernel
theorem d_A_figure_100 : decode c_A_figure 100 = .ok (.invokevirtual 153, 3) := by decide +kernel
theorem d_A_figure_103 : decode c_A_figure 103 = .ok (.ireturn, 1) := by decide +kernel
theorem d_A_figure_104 : decode c_A_figure 104 = .ok (.aload_n 0, 1) := by decide +kernel
theorem d_A_figure_105 : decode c_A_figure 105 = .ok (.getfield 19, 3) := by decide +kernel
theorem d_A_figure_108 : decode c_A_figure 108 = .ok (.invokevirtual 156, 3) := by decide +kernel
theorem d_A_figure_111 : decode c_A_figure 111 = .ok (.ireturn, 1) := by decide +kernel
theorem d_A_neededArrows_0 : decode c_A_neededArrows 0 = .ok (.iconst 0, 1) := by decide +kernel
theorem d_A_neededArrows_1 : decode c_A_neededArrows 1 = .ok (.istore_n 1, 1) := by decide +kernel
theorem d_A_neededArrows_2 : decode c_A_neededArrows 2 = .ok (.iconst 0, 1) := by decide +kernel
theorem d_A_neededArrows_3 : decode c_A_neededArrows 3 = .ok (.istore_n 2, 1) := by decide +kernel
theorem d_A_neededArrows_4 : decode c_A_neededArrows 4 = .ok (.iload_n 2, 1) := by decide +kernel
theorem d_A_neededArrows_5 : decode c_A_neededArrows 5 = .ok (.bipush 16, 2) := by decide +kernel
theorem d_A_neededArrows_7 : decode c_A_neededArrows 7 = .ok (.if_icmp .ge 47, 3) := by decide +kernel
theorem d_A_neededArrows_10 : decode c_A_neededArrows 10 = .ok (.iconst 0, 1) := by decide +kernel
theorem d_A_neededArrows_11 : decode c_A_neededArrows 11 = .ok (.istore_n 3, 1) := by decide +kernel
theorem d_A_neededArrows_12 : decode c_A_neededArrows 12 = .ok (.iload_n 3, 1) := by decide +kernel
theorem d_A_neededArrows_13 : decode c_A_neededArrows 13 = .ok (.bipush 16, 2) := by decide +kernel
theorem d_A_neededArrows_15 : decode c_A_neededArrows 15 = .ok (.if_icmp .ge 33, 3) := by decide +kernel
theorem d_A_neededArrows_18 : decode c_A_neededArrows 18 = .ok (.aload_n 0, 1) := by decide +kernel
theorem d_A_neededArrows_19 : decode c_A_neededArrows 19 = .ok (.getfield 10, 3) := by decide +kernel
theorem d_A_neededArrows_22 : decode c_A_neededArrows 22 = .ok (.iload_n 2, 1) := by decide +kernel
theorem d_A_neededArrows_23 : decode c_A_neededArrows 23 = .ok (.iload_n 3, 1) := by decide +kernel
theorem d_A_neededArrows_24 : decode c_A_neededArrows 24 = .ok (.invokevirtual 48, 3) := by decide +kernel
theorem d_A_neededArrows_27 : decode c_A_neededArrows 27 = .ok (.ifCond .eq 15, 3) := by decide +kernel
theorem d_A_neededArrows_30 : decode c_A_neededArrows 30 = .ok (.aload_n 0, 1) := by decide +kernel
theorem d_A_neededArrows_31 : decode c_A_neededArrows 31 = .ok (.iload_n 2, 1) := by decide +kernel
theorem d_A_neededArrows_32 : decode c_A_neededArrows 32 = .ok (.iload_n 3, 1) := by decide +kernel
theorem d_A_neededArrows_33 : decode c_A_neededArrows 33 = .ok (.invokevirtual 165, 3) := by decide +kernel
theorem d_A_neededArrows_36 : decode c_A_neededArrows 36 = .ok (.ifCond .ne 6, 3) := by decide +kernel
theorem d_A_neededArrows_39 : decode c_A_neededArrows 39 = .ok (.iinc 1 1, 3) := by decide +kernel
theorem d_A_neededArrows_42 : decode c_A_neededArrows 42 = .ok (.iinc 3 1, 3) := by decide +kernel
theorem d_A_neededArrows_45 : decode c_A_neededArrows 45 = .ok (.goto (-33), 3) := by decide +kernel
theorem d_A_neededArrows_48 : decode c_A_neededArrows 48 = .ok (.iinc 2 1, 3) := by decide +kernel
theorem d_A_neededArrows_51 : decode c_A_neededArrows 51 = .ok (.goto (-47), 3) := by decide +kernel
theorem d_A_neededArrows_54 : decode c_A_neededArrows 54 = .ok (.iload_n 1, 1) := by decide +kernel
theorem d_A_neededArrows_55 : decode c_A_neededArrows 55 = .ok (.ireturn, 1) := by decide +kernel
theorem d_A_hasDetour_0 : decode c_A_hasDetour 0 = .ok (.aload_n 0, 1) := by decide +kernel
theorem d_A_hasDetour_1 : decode c_A_hasDetour 1 = .ok (.getfield 10, 3) := by decide +kernel
theorem d_A_hasDetour_4 : decode c_A_hasDetour 4 = .ok (.aload_n 0, 1) := by decide +kernel
theorem d_A_hasDetour_5 : decode c_A_hasDetour 5 = .ok (.getfield 10, 3) := by decide +kernel
theorem d_A_hasDetour_8 : decode c_A_hasDetour 8 = .ok (.iload_n 1, 1) := by decide +kernel
theorem d_A_hasDetour_9 : decode c_A_hasDetour 9 = .ok (.invokevirtual 168, 3) := by decide +kernel
theorem d_A_hasDetour_12 : decode c_A_hasDetour 12 = .ok (.iload_n 2, 1) := by decide +kernel
theorem d_A_hasDetour_13 : decode c_A_hasDetour 13 = .ok (.invokestatic 97, 3) := by decide +kernel
theorem d_A_hasDetour_16 : decode c_A_hasDetour 16 = .ok (.iconst (-1), 1) := by decide +kernel
theorem d_A_hasDetour_17 : decode c_A_hasDetour 17 = .ok (.ixor, 1) := by decide +kernel
theorem d_A_hasDetour_18 : decode c_A_hasDetour 18 = .ok (.iand, 1) := by decide +kernel
theorem d_A_hasDetour_19 : decode c_A_hasDetour 19 = .ok (.iload_n 1, 1) := by decide +kernel
theorem d_A_hasDetour_20 : decode c_A_hasDetour 20 = .ok (.invokestatic 97, 3) := by decide +kernel
theorem d_A_hasDetour_23 : decode c_A_hasDetour 23 = .ok (.invokevirtual 100, 3) := by decide +kernel
theorem d_A_hasDetour_26 : decode c_A_hasDetour 26 = .ok (.iload_n 2, 1) := by decide +kernel
theorem d_A_hasDetour_27 : decode c_A_hasDetour 27 = .ok (.invokestatic 104, 3) := by decide +kernel
theorem d_A_hasDetour_30 : decode c_A_hasDetour 30 = .ok (.ireturn, 1) := by decide +kernel
