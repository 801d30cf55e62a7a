theorem d_M_init_0 : decode c_M_init 0 = .ok (.aload_n 0, 1) := by decide +kernel
theorem d_M_init_1 : decode c_M_init 1 = .ok (.invokespecial 1, 3) := by decide +kernel
theorem d_M_init_4 : decode c_M_init 4 = .ok (.aload_n 0, 1) := by decide +kernel
theorem d_M_init_5 : decode c_M_init 5 = .ok (.bipush 16, 2) := by decide +kernel
theorem d_M_init_7 : decode c_M_init 7 = .ok (.newarray .int, 2) := by decide +kernel
theorem d_M_init_9 : decode c_M_init 9 = .ok (.putfield 7, 3) := by decide +kernel
theorem d_M_init_12 : decode c_M_init 12 = .ok (.aload_n 0, 1) := by decide +kernel
theorem d_M_init_13 : decode c_M_init 13 = .ok (.bipush 16, 2) := by decide +kernel
theorem d_M_init_15 : decode c_M_init 15 = .ok (.newarray .int, 2) := by decide +kernel
theorem d_M_init_17 : decode c_M_init 17 = .ok (.putfield 13, 3) := by decide +kernel
theorem d_M_init_20 : decode c_M_init 20 = .ok (.aload_n 0, 1) := by decide +kernel
theorem d_M_init_21 : decode c_M_init 21 = .ok (.bipush 16, 2) := by decide +kernel
theorem d_M_init_23 : decode c_M_init 23 = .ok (.newarray .int, 2) := by decide +kernel
theorem d_M_init_25 : decode c_M_init 25 = .ok (.putfield 16, 3) := by decide +kernel
theorem d_M_init_28 : decode c_M_init 28 = .ok (.aload_n 0, 1) := by decide +kernel
theorem d_M_init_29 : decode c_M_init 29 = .ok (.bipush 16, 2) := by decide +kernel
theorem d_M_init_31 : decode c_M_init 31 = .ok (.newarray .int, 2) := by decide +kernel
theorem d_M_init_33 : decode c_M_init 33 = .ok (.putfield 19, 3) := by decide +kernel
theorem d_M_init_36 : decode c_M_init 36 = .ok (.aload_n 0, 1) := by decide +kernel
theorem d_M_init_37 : decode c_M_init 37 = .ok (.bipush 32, 2) := by decide +kernel
theorem d_M_init_39 : decode c_M_init 39 = .ok (.newarray .int, 2) := by decide +kernel
theorem d_M_init_41 : decode c_M_init 41 = .ok (.putfield 22, 3) := by decide +kernel
theorem d_M_init_44 : decode c_M_init 44 = .ok (.aload_n 0, 1) := by decide +kernel
theorem d_M_init_45 : decode c_M_init 45 = .ok (.bipush 32, 2) := by decide +kernel
theorem d_M_init_47 : decode c_M_init 47 = .ok (.newarray .int, 2) := by decide +kernel
theorem d_M_init_49 : decode c_M_init 49 = .ok (.putfield 25, 3) := by decide +kernel
theorem d_M_init_52 : decode c_M_init 52 = .ok (.aload_n 0, 1) := by decide +kernel
theorem d_M_init_53 : decode c_M_init 53 = .ok (.bipush 32, 2) := by decide +kernel
theorem d_M_init_55 : decode c_M_init 55 = .ok (.newarray .int, 2) := by decide +kernel
theorem d_M_init_57 : decode c_M_init 57 = .ok (.putfield 28, 3) := by decide +kernel
theorem d_M_init_60 : decode c_M_init 60 = .ok (.return_, 1) := by decide +kernel
theorem d_M_thrown_0 : decode c_M_thrown 0 = .ok (.aload_n 0, 1) := by decide +kernel
theorem d_M_thrown_1 : decode c_M_thrown 1 = .ok (.getfield 31, 3) := by decide +kernel
theorem d_M_thrown_4 : decode c_M_thrown 4 = .ok (.ireturn, 1) := by decide +kernel
theorem d_M_add_0 : decode c_M_add 0 = .ok (.iload_n 1, 1) := by decide +kernel
theorem d_M_add_1 : decode c_M_add 1 = .ok (.invokestatic 44, 3) := by decide +kernel
theorem d_M_add_4 : decode c_M_add 4 = .ok (.ifCond .eq 19, 3) := by decide +kernel
theorem d_M_add_7 : decode c_M_add 7 = .ok (.iload_n 2, 1) := by decide +kernel
theorem d_M_add_8 : decode c_M_add 8 = .ok (.invokestatic 44, 3) := by decide +kernel
theorem d_M_add_11 : decode c_M_add 11 = .ok (.ifCond .eq 12, 3) := by decide +kernel
theorem d_M_add_14 : decode c_M_add 14 = .ok (.iload_n 1, 1) := by decide +kernel
theorem d_M_add_15 : decode c_M_add 15 = .ok (.iload_n 2, 1) := by decide +kernel
theorem d_M_add_16 : decode c_M_add 16 = .ok (.if_icmp .eq 7, 3) := by decide +kernel
theorem d_M_add_19 : decode c_M_add 19 = .ok (.iconst 1, 1) := by decide +kernel
theorem d_M_add_20 : decode c_M_add 20 = .ok (.goto 4, 3) := by decide +kernel
theorem d_M_add_23 : decode c_M_add 23 = .ok (.iconst 0, 1) := by decide +kernel
theorem d_M_add_24 : decode c_M_add 24 = .ok (.istore_n 3, 1) := by decide +kernel
theorem d_M_add_25 : decode c_M_add 25 = .ok (.iload_n 3, 1) := by decide +kernel
theorem d_M_add_26 : decode c_M_add 26 = .ok (.ifCond .eq 20, 3) := by decide +kernel
theorem d_M_add_29 : decode c_M_add 29 = .ok (.aload_n 0, 1) := by decide +kernel
theorem d_M_add_30 : decode c_M_add 30 = .ok (.getfield 7, 3) := by decide +kernel
theorem d_M_add_33 : decode c_M_add 33 = .ok (.iload_n 1, 1) := by decide +kernel
theorem d_M_add_34 : decode c_M_add 34 = .ok (.iaload, 1) := by decide +kernel
theorem d_M_add_35 : decode c_M_add 35 = .ok (.iload_n 2, 1) := by decide +kernel
theorem d_M_add_36 : decode c_M_add 36 = .ok (.invokestatic 35, 3) := by decide +kernel
theorem d_M_add_39 : decode c_M_add 39 = .ok (.ifCond .eq 7, 3) := by decide +kernel
theorem d_M_add_42 : decode c_M_add 42 = .ok (.iconst 1, 1) := by decide +kernel
theorem d_M_add_43 : decode c_M_add 43 = .ok (.goto 4, 3) := by decide +kernel
theorem d_M_add_46 : decode c_M_add 46 = .ok (.iconst 0, 1) := by decide +kernel
theorem d_M_add_47 : decode c_M_add 47 = .ok (.istore 4, 2) := by decide +kernel
theorem d_M_add_49 : decode c_M_add 49 = .ok (.aload_n 0, 1) := by decide +kernel
theorem d_M_add_50 : decode c_M_add 50 = .ok (.iload_n 3, 1) := by decide +kernel
theorem d_M_add_51 : decode c_M_add 51 = .ok (.ifCond .ne 7, 3) := by decide +kernel
theorem d_M_add_54 : decode c_M_add 54 = .ok (.iconst 1, 1) := by decide +kernel
theorem d_M_add_55 : decode c_M_add 55 = .ok (.goto 22, 3) := by decide +kernel
theorem d_M_add_58 : decode c_M_add 58 = .ok (.iload 4, 2) := by decide +kernel
theorem d_M_add_60 : decode c_M_add 60 = .ok (.ifCond .ne 16, 3) := by decide +kernel
theorem d_M_add_63 : decode c_M_add 63 = .ok (.aload_n 0, 1) := by decide +kernel
theorem d_M_add_64 : decode c_M_add 64 = .ok (.getfield 48, 3) := by decide +kernel
theorem d_M_add_67 : decode c_M_add 67 = .ok (.bipush 80, 2) := by decide +kernel
theorem d_M_add_69 : decode c_M_add 69 = .ok (.if_icmp .ne 7, 3) := by decide +kernel
theorem d_M_add_72 : decode c_M_add 72 = .ok (.iconst 2, 1) := by decide +kernel
theorem d_M_add_73 : decode c_M_add 73 = .ok (.goto 4, 3) := by decide +kernel
theorem d_M_add_76 : decode c_M_add 76 = .ok (.iconst 0, 1) := by decide +kernel
theorem d_M_add_77 : decode c_M_add 77 = .ok (.putfield 31, 3) := by decide +kernel
theorem d_M_add_80 : decode c_M_add 80 = .ok (.aload_n 0, 1) := by decide +kernel
theorem d_M_add_81 : decode c_M_add 81 = .ok (.getfield 31, 3) := by decide +kernel
theorem d_M_add_84 : decode c_M_add 84 = .ok (.ifCond .gt 8, 3) := by decide +kernel
theorem d_M_add_87 : decode c_M_add 87 = .ok (.iload 4, 2) := by decide +kernel
theorem d_M_add_89 : decode c_M_add 89 = .ok (.ifCond .eq 5, 3) := by decide +kernel
theorem d_M_add_92 : decode c_M_add 92 = .ok (.iconst 0, 1) := by decide +kernel
theorem d_M_add_93 : decode c_M_add 93 = .ok (.ireturn, 1) := by decide +kernel
theorem d_M_add_94 : decode c_M_add 94 = .ok (.aload_n 0, 1) := by decide +kernel
theorem d_M_add_95 : decode c_M_add 95 = .ok (.getfield 7, 3) := by decide +kernel
theorem d_M_add_98 : decode c_M_add 98 = .ok (.iload_n 1, 1) := by decide +kernel
theorem d_M_add_99 : decode c_M_add 99 = .ok (.dup2, 1) := by decide +kernel
theorem d_M_add_100 : decode c_M_add 100 = .ok (.iaload, 1) := by decide +kernel
theorem d_M_add_101 : decode c_M_add 101 = .ok (.iconst 1, 1) := by decide +kernel
theorem d_M_add_102 : decode c_M_add 102 = .ok (.iload_n 2, 1) := by decide +kernel
theorem d_M_add_103 : decode c_M_add 103 = .ok (.ishl, 1) := by decide +kernel
theorem d_M_add_104 : decode c_M_add 104 = .ok (.ior, 1) := by decide +kernel
theorem d_M_add_105 : decode c_M_add 105 = .ok (.iastore, 1) := by decide +kernel
theorem d_M_add_106 : decode c_M_add 106 = .ok (.aload_n 0, 1) := by decide +kernel
theorem d_M_add_107 : decode c_M_add 107 = .ok (.dup, 1) := by decide +kernel
theorem d_M_add_108 : decode c_M_add 108 = .ok (.getfield 48, 3) := by decide +kernel
theorem d_M_add_111 : decode c_M_add 111 = .ok (.iconst 1, 1) := by decide +kernel
theorem d_M_add_112 : decode c_M_add 112 = .ok (.iadd, 1) := by decide +kernel
theorem d_M_add_113 : decode c_M_add 113 = .ok (.putfield 48, 3) := by decide +kernel
theorem d_M_add_116 : decode c_M_add 116 = .ok (.iconst 1, 1) := by decide +kernel
theorem d_M_add_117 : decode c_M_add 117 = .ok (.ireturn, 1) := by decide +kernel
theorem d_M_isPlace_0 : decode c_M_isPlace 0 = .ok (.iload_n 0, 1) := by decide +kernel
theorem d_M_isPlace_1 : decode c_M_isPlace 1 = .ok (.ifCond .lt 13, 3) := by decide +kernel
theorem d_M_isPlace_4 : decode c_M_isPlace 4 = .ok (.iload_n 0, 1) := by decide +kernel
theorem d_M_isPlace_5 : decode c_M_isPlace 5 = .ok (.bipush 15, 2) := by decide +kernel
theorem d_M_isPlace_7 : decode c_M_isPlace 7 = .ok (.if_icmp .gt 7, 3) := by decide +kernel
theorem d_M_isPlace_10 : decode c_M_isPlace 10 = .ok (.iconst 1, 1) := by decide +kernel
theorem d_M_isPlace_11 : decode c_M_isPlace 11 = .ok (.goto 4, 3) := by decide +kernel
theorem d_M_isPlace_14 : decode c_M_isPlace 14 = .ok (.iconst 0, 1) := by decide +kernel
theorem d_M_isPlace_15 : decode c_M_isPlace 15 = .ok (.ireturn, 1) := by decide +kernel
theorem d_M_has_0 : decode c_M_has 0 = .ok (.iload_n 0, 1) := by decide +kernel
theorem d_M_has_1 : decode c_M_has 1 = .ok (.iload_n 1, 1) := by decide +kernel
theorem d_M_has_2 : decode c_M_has 2 = .ok (.ishr, 1) := by decide +kernel
theorem d_M_has_3 : decode c_M_has 3 = .ok (.iconst 1, 1) := by decide +kernel
theorem d_M_has_4 : decode c_M_has 4 = .ok (.iand, 1) := by decide +kernel
theorem d_M_has_5 : decode c_M_has 5 = .ok (.iconst 1, 1) := by decide +kernel
theorem d_M_has_6 : decode c_M_has 6 = .ok (.if_icmp .ne 7, 3) := by decide +kernel
theorem d_M_has_9 : decode c_M_has 9 = .ok (.iconst 1, 1) := by decide +kernel
theorem d_M_has_10 : decode c_M_has 10 = .ok (.goto 4, 3) := by decide +kernel
theorem d_M_has_13 : decode c_M_has 13 = .ok (.iconst 0, 1) := by decide +kernel
theorem d_M_has_14 : decode c_M_has 14 = .ok (.ireturn, 1) := by decide +kernel
theorem d_M_remove_0 : decode c_M_remove 0 = .ok (.aload_n 0, 1) := by decide +kernel
theorem d_M_remove_1 : decode c_M_remove 1 = .ok (.iload_n 1, 1) := by decide +kernel
theorem d_M_remove_2 : decode c_M_remove 2 = .ok (.invokestatic 44, 3) := by decide +kernel
theorem d_M_remove_5 : decode c_M_remove 5 = .ok (.ifCond .eq 14, 3) := by decide +kernel
theorem d_M_remove_8 : decode c_M_remove 8 = .ok (.iload_n 2, 1) := by decide +kernel
theorem d_M_remove_9 : decode c_M_remove 9 = .ok (.invokestatic 44, 3) := by decide +kernel
theorem d_M_remove_12 : decode c_M_remove 12 = .ok (.ifCond .eq 7, 3) := by decide +kernel
theorem d_M_remove_15 : decode c_M_remove 15 = .ok (.iconst 0, 1) := by decide +kernel
theorem d_M_remove_16 : decode c_M_remove 16 = .ok (.goto 4, 3) := by decide +kernel
theorem d_M_remove_19 : decode c_M_remove 19 = .ok (.iconst 1, 1) := by decide +kernel
theorem d_M_remove_20 : decode c_M_remove 20 = .ok (.putfield 31, 3) := by decide +kernel
theorem d_M_remove_23 : decode c_M_remove 23 = .ok (.aload_n 0, 1) := by decide +kernel
theorem d_M_remove_24 : decode c_M_remove 24 = .ok (.getfield 31, 3) := by decide +kernel
theorem d_M_remove_27 : decode c_M_remove 27 = .ok (.ifCond .gt 16, 3) := by decide +kernel
theorem d_M_remove_30 : decode c_M_remove 30 = .ok (.aload_n 0, 1) := by decide +kernel
theorem d_M_remove_31 : decode c_M_remove 31 = .ok (.getfield 7, 3) := by decide +kernel
theorem d_M_remove_34 : decode c_M_remove 34 = .ok (.iload_n 1, 1) := by decide +kernel
theorem d_M_remove_35 : decode c_M_remove 35 = .ok (.iaload, 1) := by decide +kernel
theorem d_M_remove_36 : decode c_M_remove 36 = .ok (.iload_n 2, 1) := by decide +kernel
theorem d_M_remove_37 : decode c_M_remove 37 = .ok (.invokestatic 35, 3) := by decide +kernel
theorem d_M_remove_40 : decode c_M_remove 40 = .ok (.ifCond .ne 5, 3) := by decide +kernel
theorem d_M_remove_43 : decode c_M_remove 43 = .ok (.iconst 0, 1) := by decide +kernel
theorem d_M_remove_44 : decode c_M_remove 44 = .ok (.ireturn, 1) := by decide +kernel
theorem d_M_remove_45 : decode c_M_remove 45 = .ok (.aload_n 0, 1) := by decide +kernel
theorem d_M_remove_46 : decode c_M_remove 46 = .ok (.getfield 7, 3) := by decide +kernel
theorem d_M_remove_49 : decode c_M_remove 49 = .ok (.iload_n 1, 1) := by decide +kernel
theorem d_M_remove_50 : decode c_M_remove 50 = .ok (.dup2, 1) := by decide +kernel
theorem d_M_remove_51 : decode c_M_remove 51 = .ok (.iaload, 1) := by decide +kernel
theorem d_M_remove_52 : decode c_M_remove 52 = .ok (.iconst 1, 1) := by decide +kernel
theorem d_M_remove_53 : decode c_M_remove 53 = .ok (.iload_n 2, 1) := by decide +kernel
theorem d_M_remove_54 : decode c_M_remove 54 = .ok (.ishl, 1) := by decide +kernel
theorem d_M_remove_55 : decode c_M_remove 55 = .ok (.iconst (-1), 1) := by decide +kernel
theorem d_M_remove_56 : decode c_M_remove 56 = .ok (.ixor, 1) := by decide +kernel
theorem d_M_remove_57 : decode c_M_remove 57 = .ok (.iand, 1) := by decide +kernel
theorem d_M_remove_58 : decode c_M_remove 58 = .ok (.iastore, 1) := by decide +kernel
theorem d_M_remove_59 : decode c_M_remove 59 = .ok (.aload_n 0, 1) := by decide +kernel
theorem d_M_remove_60 : decode c_M_remove 60 = .ok (.dup, 1) := by decide +kernel
theorem d_M_remove_61 : decode c_M_remove 61 = .ok (.getfield 48, 3) := by decide +kernel
theorem d_M_remove_64 : decode c_M_remove 64 = .ok (.iconst 1, 1) := by decide +kernel
theorem d_M_remove_65 : decode c_M_remove 65 = .ok (.isub, 1) := by decide +kernel
theorem d_M_remove_66 : decode c_M_remove 66 = .ok (.putfield 48, 3) := by decide +kernel
theorem d_M_remove_69 : decode c_M_remove 69 = .ok (.iconst 1, 1) := by decide +kernel
theorem d_M_remove_70 : decode c_M_remove 70 = .ok (.ireturn, 1) := by decide +kernel
theorem d_M_clear_0 : decode c_M_clear 0 = .ok (.aload_n 0, 1) := by decide +kernel
theorem d_M_clear_1 : decode c_M_clear 1 = .ok (.iconst 0, 1) := by decide +kernel
theorem d_M_clear_2 : decode c_M_clear 2 = .ok (.putfield 31, 3) := by decide +kernel
theorem d_M_clear_5 : decode c_M_clear 5 = .ok (.aload_n 0, 1) := by decide +kernel
theorem d_M_clear_6 : decode c_M_clear 6 = .ok (.getfield 48, 3) := by decide +kernel
theorem d_M_clear_9 : decode c_M_clear 9 = .ok (.istore_n 1, 1) := by decide +kernel
theorem d_M_clear_10 : decode c_M_clear 10 = .ok (.iconst 0, 1) := by decide +kernel
theorem d_M_clear_11 : decode c_M_clear 11 = .ok (.istore_n 2, 1) := by decide +kernel
theorem d_M_clear_12 : decode c_M_clear 12 = .ok (.iload_n 2, 1) := by decide +kernel
theorem d_M_clear_13 : decode c_M_clear 13 = .ok (.bipush 16, 2) := by decide +kernel
theorem d_M_clear_15 : decode c_M_clear 15 = .ok (.if_icmp .ge 16, 3) := by decide +kernel
theorem d_M_clear_18 : decode c_M_clear 18 = .ok (.aload_n 0, 1) := by decide +kernel
theorem d_M_clear_19 : decode c_M_clear 19 = .ok (.getfield 7, 3) := by decide +kernel
theorem d_M_clear_22 : decode c_M_clear 22 = .ok (.iload_n 2, 1) := by decide +kernel
theorem d_M_clear_23 : decode c_M_clear 23 = .ok (.iconst 0, 1) := by decide +kernel
theorem d_M_clear_24 : decode c_M_clear 24 = .ok (.iastore, 1) := by decide +kernel
theorem d_M_clear_25 : decode c_M_clear 25 = .ok (.iinc 2 1, 3) := by decide +kernel
theorem d_M_clear_28 : decode c_M_clear 28 = .ok (.goto (-16), 3) := by decide +kernel
theorem d_M_clear_31 : decode c_M_clear 31 = .ok (.aload_n 0, 1) := by decide +kernel
theorem d_M_clear_32 : decode c_M_clear 32 = .ok (.iconst 0, 1) := by decide +kernel
theorem d_M_clear_33 : decode c_M_clear 33 = .ok (.putfield 48, 3) := by decide +kernel
theorem d_M_clear_36 : decode c_M_clear 36 = .ok (.iload_n 1, 1) := by decide +kernel
theorem d_M_clear_37 : decode c_M_clear 37 = .ok (.ireturn, 1) := by decide +kernel
theorem d_M_group_0 : decode c_M_group 0 = .ok (.aload_n 0, 1) := by decide +kernel
theorem d_M_group_1 : decode c_M_group 1 = .ok (.iload_n 1, 1) := by decide +kernel
theorem d_M_group_2 : decode c_M_group 2 = .ok (.iload_n 1, 1) := by decide +kernel
theorem d_M_group_3 : decode c_M_group 3 = .ok (.invokevirtual 67, 3) := by decide +kernel
theorem d_M_group_6 : decode c_M_group 6 = .ok (.ifCond .eq 5, 3) := by decide +kernel
theorem d_M_group_9 : decode c_M_group 9 = .ok (.iconst 0, 1) := by decide +kernel
theorem d_M_group_10 : decode c_M_group 10 = .ok (.ireturn, 1) := by decide +kernel
theorem d_M_group_11 : decode c_M_group 11 = .ok (.aload_n 0, 1) := by decide +kernel
theorem d_M_group_12 : decode c_M_group 12 = .ok (.invokevirtual 55, 3) := by decide +kernel
theorem d_M_group_15 : decode c_M_group 15 = .ok (.aload_n 0, 1) := by decide +kernel
theorem d_M_group_16 : decode c_M_group 16 = .ok (.getfield 16, 3) := by decide +kernel
theorem d_M_group_19 : decode c_M_group 19 = .ok (.iload_n 1, 1) := by decide +kernel
theorem d_M_group_20 : decode c_M_group 20 = .ok (.iaload, 1) := by decide +kernel
theorem d_M_group_21 : decode c_M_group 21 = .ok (.invokestatic 61, 3) := by decide +kernel
theorem d_M_group_24 : decode c_M_group 24 = .ok (.ireturn, 1) := by decide +kernel
theorem d_M_lacks_0 : decode c_M_lacks 0 = .ok (.aload_n 0, 1) := by decide +kernel
theorem d_M_lacks_1 : decode c_M_lacks 1 = .ok (.iload_n 1, 1) := by decide +kernel
theorem d_M_lacks_2 : decode c_M_lacks 2 = .ok (.invokestatic 44, 3) := by decide +kernel
theorem d_M_lacks_5 : decode c_M_lacks 5 = .ok (.ifCond .eq 14, 3) := by decide +kernel
theorem d_M_lacks_8 : decode c_M_lacks 8 = .ok (.iload_n 2, 1) := by decide +kernel
theorem d_M_lacks_9 : decode c_M_lacks 9 = .ok (.invokestatic 44, 3) := by decide +kernel
theorem d_M_lacks_12 : decode c_M_lacks 12 = .ok (.ifCond .eq 7, 3) := by decide +kernel
theorem d_M_lacks_15 : decode c_M_lacks 15 = .ok (.iconst 0, 1) := by decide +kernel
theorem d_M_lacks_16 : decode c_M_lacks 16 = .ok (.goto 4, 3) := by decide +kernel
theorem d_M_lacks_19 : decode c_M_lacks 19 = .ok (.iconst 1, 1) := by decide +kernel
theorem d_M_lacks_20 : decode c_M_lacks 20 = .ok (.putfield 31, 3) := by decide +kernel
theorem d_M_lacks_23 : decode c_M_lacks 23 = .ok (.aload_n 0, 1) := by decide +kernel
theorem d_M_lacks_24 : decode c_M_lacks 24 = .ok (.getfield 31, 3) := by decide +kernel
theorem d_M_lacks_27 : decode c_M_lacks 27 = .ok (.ifCond .le 7, 3) := by decide +kernel
theorem d_M_lacks_30 : decode c_M_lacks 30 = .ok (.iconst 1, 1) := by decide +kernel
theorem d_M_lacks_31 : decode c_M_lacks 31 = .ok (.goto 4, 3) := by decide +kernel
theorem d_M_lacks_34 : decode c_M_lacks 34 = .ok (.iconst 0, 1) := by decide +kernel
theorem d_M_lacks_35 : decode c_M_lacks 35 = .ok (.ireturn, 1) := by decide +kernel
theorem d_M_findGroups_0 : decode c_M_findGroups 0 = .ok (.iconst 0, 1) := by decide +kernel
theorem d_M_findGroups_1 : decode c_M_findGroups 1 = .ok (.istore_n 1, 1) := by decide +kernel
theorem d_M_findGroups_2 : decode c_M_findGroups 2 = .ok (.iload_n 1, 1) := by decide +kernel
theorem d_M_findGroups_3 : decode c_M_findGroups 3 = .ok (.bipush 16, 2) := by decide +kernel
theorem d_M_findGroups_5 : decode c_M_findGroups 5 = .ok (.if_icmp .ge 74, 3) := by decide +kernel
theorem d_M_findGroups_8 : decode c_M_findGroups 8 = .ok (.aload_n 0, 1) := by decide +kernel
theorem d_M_findGroups_9 : decode c_M_findGroups 9 = .ok (.iload_n 1, 1) := by decide +kernel
theorem d_M_findGroups_10 : decode c_M_findGroups 10 = .ok (.invokevirtual 51, 3) := by decide +kernel
theorem d_M_findGroups_13 : decode c_M_findGroups 13 = .ok (.istore_n 2, 1) := by decide +kernel
theorem d_M_findGroups_14 : decode c_M_findGroups 14 = .ok (.aload_n 0, 1) := by decide +kernel
theorem d_M_findGroups_15 : decode c_M_findGroups 15 = .ok (.getfield 16, 3) := by decide +kernel
theorem d_M_findGroups_18 : decode c_M_findGroups 18 = .ok (.iload_n 1, 1) := by decide +kernel
theorem d_M_findGroups_19 : decode c_M_findGroups 19 = .ok (.iconst 1, 1) := by decide +kernel
theorem d_M_findGroups_20 : decode c_M_findGroups 20 = .ok (.iload_n 1, 1) := by decide +kernel
theorem d_M_findGroups_21 : decode c_M_findGroups 21 = .ok (.ishl, 1) := by decide +kernel
theorem d_M_findGroups_22 : decode c_M_findGroups 22 = .ok (.iastore, 1) := by decide +kernel
theorem d_M_findGroups_23 : decode c_M_findGroups 23 = .ok (.iconst 0, 1) := by decide +kernel
theorem d_M_findGroups_24 : decode c_M_findGroups 24 = .ok (.istore_n 3, 1) := by decide +kernel
theorem d_M_findGroups_25 : decode c_M_findGroups 25 = .ok (.iload_n 3, 1) := by decide +kernel
theorem d_M_findGroups_26 : decode c_M_findGroups 26 = .ok (.bipush 16, 2) := by decide +kernel
theorem d_M_findGroups_28 : decode c_M_findGroups 28 = .ok (.if_icmp .ge 45, 3) := by decide +kernel
theorem d_M_findGroups_31 : decode c_M_findGroups 31 = .ok (.aload_n 0, 1) := by decide +kernel
theorem d_M_findGroups_32 : decode c_M_findGroups 32 = .ok (.getfield 16, 3) := by decide +kernel
theorem d_M_findGroups_35 : decode c_M_findGroups 35 = .ok (.iload_n 1, 1) := by decide +kernel
theorem d_M_findGroups_36 : decode c_M_findGroups 36 = .ok (.dup2, 1) := by decide +kernel
theorem d_M_findGroups_37 : decode c_M_findGroups 37 = .ok (.iaload, 1) := by decide +kernel
theorem d_M_findGroups_38 : decode c_M_findGroups 38 = .ok (.iload_n 2, 1) := by decide +kernel
theorem d_M_findGroups_39 : decode c_M_findGroups 39 = .ok (.iload_n 3, 1) := by decide +kernel
theorem d_M_findGroups_40 : decode c_M_findGroups 40 = .ok (.invokestatic 35, 3) := by decide +kernel
theorem d_M_findGroups_43 : decode c_M_findGroups 43 = .ok (.ifCond .eq 21, 3) := by decide +kernel
theorem d_M_findGroups_46 : decode c_M_findGroups 46 = .ok (.aload_n 0, 1) := by decide +kernel
theorem d_M_findGroups_47 : decode c_M_findGroups 47 = .ok (.iload_n 3, 1) := by decide +kernel
theorem d_M_findGroups_48 : decode c_M_findGroups 48 = .ok (.invokevirtual 51, 3) := by decide +kernel
theorem d_M_findGroups_51 : decode c_M_findGroups 51 = .ok (.iload_n 1, 1) := by decide +kernel
theorem d_M_findGroups_52 : decode c_M_findGroups 52 = .ok (.invokestatic 35, 3) := by decide +kernel
theorem d_M_findGroups_55 : decode c_M_findGroups 55 = .ok (.ifCond .eq 9, 3) := by decide +kernel
theorem d_M_findGroups_58 : decode c_M_findGroups 58 = .ok (.iconst 1, 1) := by decide +kernel
theorem d_M_findGroups_59 : decode c_M_findGroups 59 = .ok (.iload_n 3, 1) := by decide +kernel
theorem d_M_findGroups_60 : decode c_M_findGroups 60 = .ok (.ishl, 1) := by decide +kernel
theorem d_M_findGroups_61 : decode c_M_findGroups 61 = .ok (.goto 4, 3) := by decide +kernel
theorem d_M_findGroups_64 : decode c_M_findGroups 64 = .ok (.iconst 0, 1) := by decide +kernel
theorem d_M_findGroups_65 : decode c_M_findGroups 65 = .ok (.ior, 1) := by decide +kernel
theorem d_M_findGroups_66 : decode c_M_findGroups 66 = .ok (.iastore, 1) := by decide +kernel
theorem d_M_findGroups_67 : decode c_M_findGroups 67 = .ok (.iinc 3 1, 3) := by decide +kernel
theorem d_M_findGroups_70 : decode c_M_findGroups 70 = .ok (.goto (-45), 3) := by decide +kernel
theorem d_M_findGroups_73 : decode c_M_findGroups 73 = .ok (.iinc 1 1, 3) := by decide +kernel
theorem d_M_findGroups_76 : decode c_M_findGroups 76 = .ok (.goto (-74), 3) := by decide +kernel
theorem d_M_findGroups_79 : decode c_M_findGroups 79 = .ok (.return_, 1) := by decide +kernel
theorem d_M_reach_0 : decode c_M_reach 0 = .ok (.aload_n 0, 1) := by decide +kernel
theorem d_M_reach_1 : decode c_M_reach 1 = .ok (.iconst 1, 1) := by decide +kernel
theorem d_M_reach_2 : decode c_M_reach 2 = .ok (.iload_n 1, 1) := by decide +kernel
theorem d_M_reach_3 : decode c_M_reach 3 = .ok (.ishl, 1) := by decide +kernel
theorem d_M_reach_4 : decode c_M_reach 4 = .ok (.ldc 39, 2) := by decide +kernel
theorem d_M_reach_6 : decode c_M_reach 6 = .ok (.invokevirtual 40, 3) := by decide +kernel
theorem d_M_reach_9 : decode c_M_reach 9 = .ok (.ireturn, 1) := by decide +kernel
theorem d_M_spread_0 : decode c_M_spread 0 = .ok (.iload_n 1, 1) := by decide +kernel
theorem d_M_spread_1 : decode c_M_spread 1 = .ok (.iload_n 2, 1) := by decide +kernel
theorem d_M_spread_2 : decode c_M_spread 2 = .ok (.iand, 1) := by decide +kernel
theorem d_M_spread_3 : decode c_M_spread 3 = .ok (.istore_n 3, 1) := by decide +kernel
theorem d_M_spread_4 : decode c_M_spread 4 = .ok (.iconst 0, 1) := by decide +kernel
theorem d_M_spread_5 : decode c_M_spread 5 = .ok (.istore 4, 2) := by decide +kernel
theorem d_M_spread_7 : decode c_M_spread 7 = .ok (.iload_n 3, 1) := by decide +kernel
theorem d_M_spread_8 : decode c_M_spread 8 = .ok (.iload 4, 2) := by decide +kernel
theorem d_M_spread_10 : decode c_M_spread 10 = .ok (.if_icmp .eq 51, 3) := by decide +kernel
theorem d_M_spread_13 : decode c_M_spread 13 = .ok (.iload_n 3, 1) := by decide +kernel
theorem d_M_spread_14 : decode c_M_spread 14 = .ok (.istore 4, 2) := by decide +kernel
theorem d_M_spread_16 : decode c_M_spread 16 = .ok (.iconst 0, 1) := by decide +kernel
theorem d_M_spread_17 : decode c_M_spread 17 = .ok (.istore 5, 2) := by decide +kernel
theorem d_M_spread_19 : decode c_M_spread 19 = .ok (.iload 5, 2) := by decide +kernel
theorem d_M_spread_21 : decode c_M_spread 21 = .ok (.bipush 16, 2) := by decide +kernel
theorem d_M_spread_23 : decode c_M_spread 23 = .ok (.if_icmp .ge 35, 3) := by decide +kernel
theorem d_M_spread_26 : decode c_M_spread 26 = .ok (.iload_n 3, 1) := by decide +kernel
theorem d_M_spread_27 : decode c_M_spread 27 = .ok (.iload 4, 2) := by decide +kernel
theorem d_M_spread_29 : decode c_M_spread 29 = .ok (.iload 5, 2) := by decide +kernel
theorem d_M_spread_31 : decode c_M_spread 31 = .ok (.invokestatic 35, 3) := by decide +kernel
theorem d_M_spread_34 : decode c_M_spread 34 = .ok (.ifCond .eq 15, 3) := by decide +kernel
theorem d_M_spread_37 : decode c_M_spread 37 = .ok (.aload_n 0, 1) := by decide +kernel
theorem d_M_spread_38 : decode c_M_spread 38 = .ok (.getfield 7, 3) := by decide +kernel
theorem d_M_spread_41 : decode c_M_spread 41 = .ok (.iload 5, 2) := by decide +kernel
theorem d_M_spread_43 : decode c_M_spread 43 = .ok (.iaload, 1) := by decide +kernel
theorem d_M_spread_44 : decode c_M_spread 44 = .ok (.iload_n 2, 1) := by decide +kernel
theorem d_M_spread_45 : decode c_M_spread 45 = .ok (.iand, 1) := by decide +kernel
theorem d_M_spread_46 : decode c_M_spread 46 = .ok (.goto 4, 3) := by decide +kernel
theorem d_M_spread_49 : decode c_M_spread 49 = .ok (.iconst 0, 1) := by decide +kernel
theorem d_M_spread_50 : decode c_M_spread 50 = .ok (.ior, 1) := by decide +kernel
theorem d_M_spread_51 : decode c_M_spread 51 = .ok (.istore_n 3, 1) := by decide +kernel
theorem d_M_spread_52 : decode c_M_spread 52 = .ok (.iinc 5 1, 3) := by decide +kernel
theorem d_M_spread_55 : decode c_M_spread 55 = .ok (.goto (-36), 3) := by decide +kernel
theorem d_M_spread_58 : decode c_M_spread 58 = .ok (.goto (-51), 3) := by decide +kernel
theorem d_M_spread_61 : decode c_M_spread 61 = .ok (.iload_n 3, 1) := by decide +kernel
theorem d_M_spread_62 : decode c_M_spread 62 = .ok (.ireturn, 1) := by decide +kernel
theorem d_M_least_0 : decode c_M_least 0 = .ok (.iconst 0, 1) := by decide +kernel
theorem d_M_least_1 : decode c_M_least 1 = .ok (.istore_n 1, 1) := by decide +kernel
theorem d_M_least_2 : decode c_M_least 2 = .ok (.iload_n 0, 1) := by decide +kernel
theorem d_M_least_3 : decode c_M_least 3 = .ok (.iload_n 1, 1) := by decide +kernel
theorem d_M_least_4 : decode c_M_least 4 = .ok (.invokestatic 35, 3) := by decide +kernel
theorem d_M_least_7 : decode c_M_least 7 = .ok (.ifCond .ne 9, 3) := by decide +kernel
theorem d_M_least_10 : decode c_M_least 10 = .ok (.iinc 1 1, 3) := by decide +kernel
theorem d_M_least_13 : decode c_M_least 13 = .ok (.goto (-11), 3) := by decide +kernel
theorem d_M_least_16 : decode c_M_least 16 = .ok (.iload_n 1, 1) := by decide +kernel
theorem d_M_least_17 : decode c_M_least 17 = .ok (.ireturn, 1) := by decide +kernel
theorem d_M_members_0 : decode c_M_members 0 = .ok (.aload_n 0, 1) := by decide +kernel
theorem d_M_members_1 : decode c_M_members 1 = .ok (.iload_n 1, 1) := by decide +kernel
theorem d_M_members_2 : decode c_M_members 2 = .ok (.iload_n 1, 1) := by decide +kernel
theorem d_M_members_3 : decode c_M_members 3 = .ok (.invokevirtual 67, 3) := by decide +kernel
theorem d_M_members_6 : decode c_M_members 6 = .ok (.ifCond .eq 5, 3) := by decide +kernel
theorem d_M_members_9 : decode c_M_members 9 = .ok (.iconst 0, 1) := by decide +kernel
theorem d_M_members_10 : decode c_M_members 10 = .ok (.ireturn, 1) := by decide +kernel
theorem d_M_members_11 : decode c_M_members 11 = .ok (.aload_n 0, 1) := by decide +kernel
theorem d_M_members_12 : decode c_M_members 12 = .ok (.invokevirtual 55, 3) := by decide +kernel
theorem d_M_members_15 : decode c_M_members 15 = .ok (.aload_n 0, 1) := by decide +kernel
theorem d_M_members_16 : decode c_M_members 16 = .ok (.getfield 16, 3) := by decide +kernel
theorem d_M_members_19 : decode c_M_members 19 = .ok (.iload_n 1, 1) := by decide +kernel
theorem d_M_members_20 : decode c_M_members 20 = .ok (.iaload, 1) := by decide +kernel
theorem d_M_members_21 : decode c_M_members 21 = .ok (.invokestatic 70, 3) := by decide +kernel
theorem d_M_members_24 : decode c_M_members 24 = .ok (.ireturn, 1) := by decide +kernel
theorem d_M_size_0 : decode c_M_size 0 = .ok (.iconst 0, 1) := by decide +kernel
theorem d_M_size_1 : decode c_M_size 1 = .ok (.istore_n 1, 1) := by decide +kernel
theorem d_M_size_2 : decode c_M_size 2 = .ok (.iconst 0, 1) := by decide +kernel
theorem d_M_size_3 : decode c_M_size 3 = .ok (.istore_n 2, 1) := by decide +kernel
theorem d_M_size_4 : decode c_M_size 4 = .ok (.iload_n 2, 1) := by decide +kernel
theorem d_M_size_5 : decode c_M_size 5 = .ok (.bipush 16, 2) := by decide +kernel
theorem d_M_size_7 : decode c_M_size 7 = .ok (.if_icmp .ge 17, 3) := by decide +kernel
theorem d_M_size_10 : decode c_M_size 10 = .ok (.iload_n 1, 1) := by decide +kernel
theorem d_M_size_11 : decode c_M_size 11 = .ok (.iload_n 0, 1) := by decide +kernel
theorem d_M_size_12 : decode c_M_size 12 = .ok (.iload_n 2, 1) := by decide +kernel
theorem d_M_size_13 : decode c_M_size 13 = .ok (.ishr, 1) := by decide +kernel
theorem d_M_size_14 : decode c_M_size 14 = .ok (.iconst 1, 1) := by decide +kernel
theorem d_M_size_15 : decode c_M_size 15 = .ok (.iand, 1) := by decide +kernel
theorem d_M_size_16 : decode c_M_size 16 = .ok (.iadd, 1) := by decide +kernel
theorem d_M_size_17 : decode c_M_size 17 = .ok (.istore_n 1, 1) := by decide +kernel
theorem d_M_size_18 : decode c_M_size 18 = .ok (.iinc 2 1, 3) := by decide +kernel
theorem d_M_size_21 : decode c_M_size 21 = .ok (.goto (-17), 3) := by decide +kernel
theorem d_M_size_24 : decode c_M_size 24 = .ok (.iload_n 1, 1) := by decide +kernel
theorem d_M_size_25 : decode c_M_size 25 = .ok (.ireturn, 1) := by decide +kernel
theorem d_M_rank_0 : decode c_M_rank 0 = .ok (.aload_n 0, 1) := by decide +kernel
theorem d_M_rank_1 : decode c_M_rank 1 = .ok (.iload_n 1, 1) := by decide +kernel
theorem d_M_rank_2 : decode c_M_rank 2 = .ok (.iload_n 1, 1) := by decide +kernel
theorem d_M_rank_3 : decode c_M_rank 3 = .ok (.invokevirtual 67, 3) := by decide +kernel
theorem d_M_rank_6 : decode c_M_rank 6 = .ok (.ifCond .eq 5, 3) := by decide +kernel
theorem d_M_rank_9 : decode c_M_rank 9 = .ok (.iconst 0, 1) := by decide +kernel
theorem d_M_rank_10 : decode c_M_rank 10 = .ok (.ireturn, 1) := by decide +kernel
theorem d_M_rank_11 : decode c_M_rank 11 = .ok (.aload_n 0, 1) := by decide +kernel
theorem d_M_rank_12 : decode c_M_rank 12 = .ok (.invokevirtual 73, 3) := by decide +kernel
theorem d_M_rank_15 : decode c_M_rank 15 = .ok (.iconst 0, 1) := by decide +kernel
theorem d_M_rank_16 : decode c_M_rank 16 = .ok (.istore_n 2, 1) := by decide +kernel
theorem d_M_rank_17 : decode c_M_rank 17 = .ok (.aload_n 0, 1) := by decide +kernel
theorem d_M_rank_18 : decode c_M_rank 18 = .ok (.getfield 16, 3) := by decide +kernel
theorem d_M_rank_21 : decode c_M_rank 21 = .ok (.iload_n 1, 1) := by decide +kernel
theorem d_M_rank_22 : decode c_M_rank 22 = .ok (.iaload, 1) := by decide +kernel
theorem d_M_rank_23 : decode c_M_rank 23 = .ok (.aload_n 0, 1) := by decide +kernel
theorem d_M_rank_24 : decode c_M_rank 24 = .ok (.getfield 13, 3) := by decide +kernel
theorem d_M_rank_27 : decode c_M_rank 27 = .ok (.iload_n 2, 1) := by decide +kernel
theorem d_M_rank_28 : decode c_M_rank 28 = .ok (.iaload, 1) := by decide +kernel
theorem d_M_rank_29 : decode c_M_rank 29 = .ok (.invokestatic 35, 3) := by decide +kernel
theorem d_M_rank_32 : decode c_M_rank 32 = .ok (.ifCond .ne 9, 3) := by decide +kernel
theorem d_M_rank_35 : decode c_M_rank 35 = .ok (.iinc 2 1, 3) := by decide +kernel
theorem d_M_rank_38 : decode c_M_rank 38 = .ok (.goto (-21), 3) := by decide +kernel
theorem d_M_rank_41 : decode c_M_rank 41 = .ok (.iload_n 2, 1) := by decide +kernel
theorem d_M_rank_42 : decode c_M_rank 42 = .ok (.ireturn, 1) := by decide +kernel
theorem d_M_findOrder_0 : decode c_M_findOrder 0 = .ok (.aload_n 0, 1) := by decide +kernel
theorem d_M_findOrder_1 : decode c_M_findOrder 1 = .ok (.invokevirtual 55, 3) := by decide +kernel
theorem d_M_findOrder_4 : decode c_M_findOrder 4 = .ok (.aload_n 0, 1) := by decide +kernel
theorem d_M_findOrder_5 : decode c_M_findOrder 5 = .ok (.iconst 0, 1) := by decide +kernel
theorem d_M_findOrder_6 : decode c_M_findOrder 6 = .ok (.putfield 58, 3) := by decide +kernel
theorem d_M_findOrder_9 : decode c_M_findOrder 9 = .ok (.ldc 39, 2) := by decide +kernel
theorem d_M_findOrder_11 : decode c_M_findOrder 11 = .ok (.istore_n 1, 1) := by decide +kernel
theorem d_M_findOrder_12 : decode c_M_findOrder 12 = .ok (.iload_n 1, 1) := by decide +kernel
theorem d_M_findOrder_13 : decode c_M_findOrder 13 = .ok (.ifCond .eq 115, 3) := by decide +kernel
theorem d_M_findOrder_16 : decode c_M_findOrder 16 = .ok (.iconst (-1), 1) := by decide +kernel
theorem d_M_findOrder_17 : decode c_M_findOrder 17 = .ok (.istore_n 2, 1) := by decide +kernel
theorem d_M_findOrder_18 : decode c_M_findOrder 18 = .ok (.bipush 15, 2) := by decide +kernel
theorem d_M_findOrder_20 : decode c_M_findOrder 20 = .ok (.istore_n 3, 1) := by decide +kernel
theorem d_M_findOrder_21 : decode c_M_findOrder 21 = .ok (.iload_n 3, 1) := by decide +kernel
theorem d_M_findOrder_22 : decode c_M_findOrder 22 = .ok (.ifCond .lt 72, 3) := by decide +kernel
theorem d_M_findOrder_25 : decode c_M_findOrder 25 = .ok (.iload_n 1, 1) := by decide +kernel
theorem d_M_findOrder_26 : decode c_M_findOrder 26 = .ok (.iload_n 3, 1) := by decide +kernel
theorem d_M_findOrder_27 : decode c_M_findOrder 27 = .ok (.invokestatic 35, 3) := by decide +kernel
theorem d_M_findOrder_30 : decode c_M_findOrder 30 = .ok (.ifCond .eq 20, 3) := by decide +kernel
theorem d_M_findOrder_33 : decode c_M_findOrder 33 = .ok (.aload_n 0, 1) := by decide +kernel
theorem d_M_findOrder_34 : decode c_M_findOrder 34 = .ok (.getfield 16, 3) := by decide +kernel
theorem d_M_findOrder_37 : decode c_M_findOrder 37 = .ok (.iload_n 3, 1) := by decide +kernel
theorem d_M_findOrder_38 : decode c_M_findOrder 38 = .ok (.iaload, 1) := by decide +kernel
theorem d_M_findOrder_39 : decode c_M_findOrder 39 = .ok (.invokestatic 61, 3) := by decide +kernel
theorem d_M_findOrder_42 : decode c_M_findOrder 42 = .ok (.iload_n 3, 1) := by decide +kernel
theorem d_M_findOrder_43 : decode c_M_findOrder 43 = .ok (.if_icmp .ne 7, 3) := by decide +kernel
theorem d_M_findOrder_46 : decode c_M_findOrder 46 = .ok (.iconst 1, 1) := by decide +kernel
theorem d_M_findOrder_47 : decode c_M_findOrder 47 = .ok (.goto 4, 3) := by decide +kernel
theorem d_M_findOrder_50 : decode c_M_findOrder 50 = .ok (.iconst 0, 1) := by decide +kernel
theorem d_M_findOrder_51 : decode c_M_findOrder 51 = .ok (.istore 4, 2) := by decide +kernel
theorem d_M_findOrder_53 : decode c_M_findOrder 53 = .ok (.iload 4, 2) := by decide +kernel
theorem d_M_findOrder_55 : decode c_M_findOrder 55 = .ok (.ifCond .eq 31, 3) := by decide +kernel
theorem d_M_findOrder_58 : decode c_M_findOrder 58 = .ok (.aload_n 0, 1) := by decide +kernel
theorem d_M_findOrder_59 : decode c_M_findOrder 59 = .ok (.iload_n 1, 1) := by decide +kernel
theorem d_M_findOrder_60 : decode c_M_findOrder 60 = .ok (.aload_n 0, 1) := by decide +kernel
theorem d_M_findOrder_61 : decode c_M_findOrder 61 = .ok (.getfield 16, 3) := by decide +kernel
theorem d_M_findOrder_64 : decode c_M_findOrder 64 = .ok (.iload_n 3, 1) := by decide +kernel
theorem d_M_findOrder_65 : decode c_M_findOrder 65 = .ok (.iaload, 1) := by decide +kernel
theorem d_M_findOrder_66 : decode c_M_findOrder 66 = .ok (.iconst (-1), 1) := by decide +kernel
theorem d_M_findOrder_67 : decode c_M_findOrder 67 = .ok (.ixor, 1) := by decide +kernel
theorem d_M_findOrder_68 : decode c_M_findOrder 68 = .ok (.iand, 1) := by decide +kernel
theorem d_M_findOrder_69 : decode c_M_findOrder 69 = .ok (.invokevirtual 64, 3) := by decide +kernel
theorem d_M_findOrder_72 : decode c_M_findOrder 72 = .ok (.aload_n 0, 1) := by decide +kernel
theorem d_M_findOrder_73 : decode c_M_findOrder 73 = .ok (.getfield 16, 3) := by decide +kernel
theorem d_M_findOrder_76 : decode c_M_findOrder 76 = .ok (.iload_n 3, 1) := by decide +kernel
theorem d_M_findOrder_77 : decode c_M_findOrder 77 = .ok (.iaload, 1) := by decide +kernel
theorem d_M_findOrder_78 : decode c_M_findOrder 78 = .ok (.iand, 1) := by decide +kernel
theorem d_M_findOrder_79 : decode c_M_findOrder 79 = .ok (.ifCond .ne 7, 3) := by decide +kernel
theorem d_M_findOrder_82 : decode c_M_findOrder 82 = .ok (.iload_n 3, 1) := by decide +kernel
theorem d_M_findOrder_83 : decode c_M_findOrder 83 = .ok (.goto 4, 3) := by decide +kernel
theorem d_M_findOrder_86 : decode c_M_findOrder 86 = .ok (.iload_n 2, 1) := by decide +kernel
theorem d_M_findOrder_87 : decode c_M_findOrder 87 = .ok (.istore_n 2, 1) := by decide +kernel
theorem d_M_findOrder_88 : decode c_M_findOrder 88 = .ok (.iinc 3 (-1), 3) := by decide +kernel
theorem d_M_findOrder_91 : decode c_M_findOrder 91 = .ok (.goto (-70), 3) := by decide +kernel
theorem d_M_findOrder_94 : decode c_M_findOrder 94 = .ok (.aload_n 0, 1) := by decide +kernel
theorem d_M_findOrder_95 : decode c_M_findOrder 95 = .ok (.getfield 13, 3) := by decide +kernel
theorem d_M_findOrder_98 : decode c_M_findOrder 98 = .ok (.aload_n 0, 1) := by decide +kernel
theorem d_M_findOrder_99 : decode c_M_findOrder 99 = .ok (.getfield 58, 3) := by decide +kernel
theorem d_M_findOrder_102 : decode c_M_findOrder 102 = .ok (.iload_n 2, 1) := by decide +kernel
theorem d_M_findOrder_103 : decode c_M_findOrder 103 = .ok (.iastore, 1) := by decide +kernel
theorem d_M_findOrder_104 : decode c_M_findOrder 104 = .ok (.aload_n 0, 1) := by decide +kernel
theorem d_M_findOrder_105 : decode c_M_findOrder 105 = .ok (.dup, 1) := by decide +kernel
theorem d_M_findOrder_106 : decode c_M_findOrder 106 = .ok (.getfield 58, 3) := by decide +kernel
theorem d_M_findOrder_109 : decode c_M_findOrder 109 = .ok (.iconst 1, 1) := by decide +kernel
theorem d_M_findOrder_110 : decode c_M_findOrder 110 = .ok (.iadd, 1) := by decide +kernel
theorem d_M_findOrder_111 : decode c_M_findOrder 111 = .ok (.putfield 58, 3) := by decide +kernel
theorem d_M_findOrder_114 : decode c_M_findOrder 114 = .ok (.iload_n 1, 1) := by decide +kernel
theorem d_M_findOrder_115 : decode c_M_findOrder 115 = .ok (.aload_n 0, 1) := by decide +kernel
theorem d_M_findOrder_116 : decode c_M_findOrder 116 = .ok (.getfield 16, 3) := by decide +kernel
theorem d_M_findOrder_119 : decode c_M_findOrder 119 = .ok (.iload_n 2, 1) := by decide +kernel
theorem d_M_findOrder_120 : decode c_M_findOrder 120 = .ok (.iaload, 1) := by decide +kernel
theorem d_M_findOrder_121 : decode c_M_findOrder 121 = .ok (.iconst (-1), 1) := by decide +kernel
theorem d_M_findOrder_122 : decode c_M_findOrder 122 = .ok (.ixor, 1) := by decide +kernel
theorem d_M_findOrder_123 : decode c_M_findOrder 123 = .ok (.iand, 1) := by decide +kernel
theorem d_M_findOrder_124 : decode c_M_findOrder 124 = .ok (.istore_n 1, 1) := by decide +kernel
theorem d_M_findOrder_125 : decode c_M_findOrder 125 = .ok (.goto (-113), 3) := by decide +kernel
theorem d_M_findOrder_128 : decode c_M_findOrder 128 = .ok (.return_, 1) := by decide +kernel
theorem d_M_ends_0 : decode c_M_ends 0 = .ok (.iconst 0, 1) := by decide +kernel
theorem d_M_ends_1 : decode c_M_ends 1 = .ok (.istore_n 2, 1) := by decide +kernel
theorem d_M_ends_2 : decode c_M_ends 2 = .ok (.iconst 0, 1) := by decide +kernel
theorem d_M_ends_3 : decode c_M_ends 3 = .ok (.istore_n 3, 1) := by decide +kernel
theorem d_M_ends_4 : decode c_M_ends 4 = .ok (.iload_n 3, 1) := by decide +kernel
theorem d_M_ends_5 : decode c_M_ends 5 = .ok (.bipush 16, 2) := by decide +kernel
theorem d_M_ends_7 : decode c_M_ends 7 = .ok (.if_icmp .ge 30, 3) := by decide +kernel
theorem d_M_ends_10 : decode c_M_ends 10 = .ok (.iload_n 2, 1) := by decide +kernel
theorem d_M_ends_11 : decode c_M_ends 11 = .ok (.iload_n 1, 1) := by decide +kernel
theorem d_M_ends_12 : decode c_M_ends 12 = .ok (.iload_n 3, 1) := by decide +kernel
theorem d_M_ends_13 : decode c_M_ends 13 = .ok (.invokestatic 35, 3) := by decide +kernel
theorem d_M_ends_16 : decode c_M_ends 16 = .ok (.ifCond .eq 12, 3) := by decide +kernel
theorem d_M_ends_19 : decode c_M_ends 19 = .ok (.aload_n 0, 1) := by decide +kernel
theorem d_M_ends_20 : decode c_M_ends 20 = .ok (.getfield 7, 3) := by decide +kernel
theorem d_M_ends_23 : decode c_M_ends 23 = .ok (.iload_n 3, 1) := by decide +kernel
theorem d_M_ends_24 : decode c_M_ends 24 = .ok (.iaload, 1) := by decide +kernel
theorem d_M_ends_25 : decode c_M_ends 25 = .ok (.goto 4, 3) := by decide +kernel
theorem d_M_ends_28 : decode c_M_ends 28 = .ok (.iconst 0, 1) := by decide +kernel
theorem d_M_ends_29 : decode c_M_ends 29 = .ok (.ior, 1) := by decide +kernel
theorem d_M_ends_30 : decode c_M_ends 30 = .ok (.istore_n 2, 1) := by decide +kernel
theorem d_M_ends_31 : decode c_M_ends 31 = .ok (.iinc 3 1, 3) := by decide +kernel
theorem d_M_ends_34 : decode c_M_ends 34 = .ok (.goto (-30), 3) := by decide +kernel
theorem d_M_ends_37 : decode c_M_ends 37 = .ok (.iload_n 2, 1) := by decide +kernel
theorem d_M_ends_38 : decode c_M_ends 38 = .ok (.ireturn, 1) := by decide +kernel
theorem d_M_ranked_0 : decode c_M_ranked 0 = .ok (.aload_n 0, 1) := by decide +kernel
theorem d_M_ranked_1 : decode c_M_ranked 1 = .ok (.invokevirtual 73, 3) := by decide +kernel
theorem d_M_ranked_4 : decode c_M_ranked 4 = .ok (.aload_n 0, 1) := by decide +kernel
theorem d_M_ranked_5 : decode c_M_ranked 5 = .ok (.iload_n 1, 1) := by decide +kernel
theorem d_M_ranked_6 : decode c_M_ranked 6 = .ok (.ifCond .lt 11, 3) := by decide +kernel
theorem d_M_ranked_9 : decode c_M_ranked 9 = .ok (.iload_n 1, 1) := by decide +kernel
theorem d_M_ranked_10 : decode c_M_ranked 10 = .ok (.aload_n 0, 1) := by decide +kernel
theorem d_M_ranked_11 : decode c_M_ranked 11 = .ok (.getfield 58, 3) := by decide +kernel
theorem d_M_ranked_14 : decode c_M_ranked 14 = .ok (.if_icmp .lt 7, 3) := by decide +kernel
theorem d_M_ranked_17 : decode c_M_ranked 17 = .ok (.iconst 1, 1) := by decide +kernel
theorem d_M_ranked_18 : decode c_M_ranked 18 = .ok (.goto 4, 3) := by decide +kernel
theorem d_M_ranked_21 : decode c_M_ranked 21 = .ok (.iconst 0, 1) := by decide +kernel
theorem d_M_ranked_22 : decode c_M_ranked 22 = .ok (.putfield 31, 3) := by decide +kernel
theorem d_M_ranked_25 : decode c_M_ranked 25 = .ok (.aload_n 0, 1) := by decide +kernel
theorem d_M_ranked_26 : decode c_M_ranked 26 = .ok (.getfield 31, 3) := by decide +kernel
theorem d_M_ranked_29 : decode c_M_ranked 29 = .ok (.ifCond .le 7, 3) := by decide +kernel
theorem d_M_ranked_32 : decode c_M_ranked 32 = .ok (.iconst 0, 1) := by decide +kernel
theorem d_M_ranked_33 : decode c_M_ranked 33 = .ok (.goto 9, 3) := by decide +kernel
theorem d_M_ranked_36 : decode c_M_ranked 36 = .ok (.aload_n 0, 1) := by decide +kernel
theorem d_M_ranked_37 : decode c_M_ranked 37 = .ok (.getfield 13, 3) := by decide +kernel
theorem d_M_ranked_40 : decode c_M_ranked 40 = .ok (.iload_n 1, 1) := by decide +kernel
theorem d_M_ranked_41 : decode c_M_ranked 41 = .ok (.iaload, 1) := by decide +kernel
theorem d_M_ranked_42 : decode c_M_ranked 42 = .ok (.ireturn, 1) := by decide +kernel
theorem d_M_reaches_0 : decode c_M_reaches 0 = .ok (.aload_n 0, 1) := by decide +kernel
theorem d_M_reaches_1 : decode c_M_reaches 1 = .ok (.iload_n 1, 1) := by decide +kernel
theorem d_M_reaches_2 : decode c_M_reaches 2 = .ok (.iload_n 2, 1) := by decide +kernel
theorem d_M_reaches_3 : decode c_M_reaches 3 = .ok (.invokevirtual 67, 3) := by decide +kernel
theorem d_M_reaches_6 : decode c_M_reaches 6 = .ok (.ifCond .ne 19, 3) := by decide +kernel
theorem d_M_reaches_9 : decode c_M_reaches 9 = .ok (.aload_n 0, 1) := by decide +kernel
theorem d_M_reaches_10 : decode c_M_reaches 10 = .ok (.iload_n 1, 1) := by decide +kernel
theorem d_M_reaches_11 : decode c_M_reaches 11 = .ok (.invokevirtual 51, 3) := by decide +kernel
theorem d_M_reaches_14 : decode c_M_reaches 14 = .ok (.iload_n 2, 1) := by decide +kernel
theorem d_M_reaches_15 : decode c_M_reaches 15 = .ok (.invokestatic 35, 3) := by decide +kernel
theorem d_M_reaches_18 : decode c_M_reaches 18 = .ok (.ifCond .eq 7, 3) := by decide +kernel
theorem d_M_reaches_21 : decode c_M_reaches 21 = .ok (.iconst 1, 1) := by decide +kernel
theorem d_M_reaches_22 : decode c_M_reaches 22 = .ok (.goto 4, 3) := by decide +kernel
theorem d_M_reaches_25 : decode c_M_reaches 25 = .ok (.iconst 0, 1) := by decide +kernel
theorem d_M_reaches_26 : decode c_M_reaches 26 = .ok (.ireturn, 1) := by decide +kernel
theorem d_M_distance_0 : decode c_M_distance 0 = .ok (.aload_n 0, 1) := by decide +kernel
theorem d_M_distance_1 : decode c_M_distance 1 = .ok (.iload_n 1, 1) := by decide +kernel
theorem d_M_distance_2 : decode c_M_distance 2 = .ok (.iload_n 2, 1) := by decide +kernel
theorem d_M_distance_3 : decode c_M_distance 3 = .ok (.invokevirtual 67, 3) := by decide +kernel
theorem d_M_distance_6 : decode c_M_distance 6 = .ok (.ifCond .eq 5, 3) := by decide +kernel
theorem d_M_distance_9 : decode c_M_distance 9 = .ok (.iconst 0, 1) := by decide +kernel
theorem d_M_distance_10 : decode c_M_distance 10 = .ok (.ireturn, 1) := by decide +kernel
theorem d_M_distance_11 : decode c_M_distance 11 = .ok (.aload_n 0, 1) := by decide +kernel
theorem d_M_distance_12 : decode c_M_distance 12 = .ok (.iload_n 2, 1) := by decide +kernel
theorem d_M_distance_13 : decode c_M_distance 13 = .ok (.invokevirtual 76, 3) := by decide +kernel
theorem d_M_distance_16 : decode c_M_distance 16 = .ok (.aload_n 0, 1) := by decide +kernel
theorem d_M_distance_17 : decode c_M_distance 17 = .ok (.getfield 19, 3) := by decide +kernel
theorem d_M_distance_20 : decode c_M_distance 20 = .ok (.iload_n 1, 1) := by decide +kernel
theorem d_M_distance_21 : decode c_M_distance 21 = .ok (.iaload, 1) := by decide +kernel
theorem d_M_distance_22 : decode c_M_distance 22 = .ok (.ireturn, 1) := by decide +kernel
theorem d_M_measure_0 : decode c_M_measure 0 = .ok (.iconst 1, 1) := by decide +kernel
theorem d_M_measure_1 : decode c_M_measure 1 = .ok (.iload_n 1, 1) := by decide +kernel
theorem d_M_measure_2 : decode c_M_measure 2 = .ok (.ishl, 1) := by decide +kernel
theorem d_M_measure_3 : decode c_M_measure 3 = .ok (.istore_n 2, 1) := by decide +kernel
theorem d_M_measure_4 : decode c_M_measure 4 = .ok (.iconst 0, 1) := by decide +kernel
theorem d_M_measure_5 : decode c_M_measure 5 = .ok (.istore_n 3, 1) := by decide +kernel
theorem d_M_measure_6 : decode c_M_measure 6 = .ok (.iload_n 3, 1) := by decide +kernel
theorem d_M_measure_7 : decode c_M_measure 7 = .ok (.bipush 16, 2) := by decide +kernel
theorem d_M_measure_9 : decode c_M_measure 9 = .ok (.if_icmp .ge 25, 3) := by decide +kernel
theorem d_M_measure_12 : decode c_M_measure 12 = .ok (.aload_n 0, 1) := by decide +kernel
theorem d_M_measure_13 : decode c_M_measure 13 = .ok (.getfield 19, 3) := by decide +kernel
theorem d_M_measure_16 : decode c_M_measure 16 = .ok (.iload_n 3, 1) := by decide +kernel
theorem d_M_measure_17 : decode c_M_measure 17 = .ok (.iload_n 3, 1) := by decide +kernel
theorem d_M_measure_18 : decode c_M_measure 18 = .ok (.iload_n 1, 1) := by decide +kernel
theorem d_M_measure_19 : decode c_M_measure 19 = .ok (.if_icmp .ne 7, 3) := by decide +kernel
theorem d_M_measure_22 : decode c_M_measure 22 = .ok (.iconst 0, 1) := by decide +kernel
theorem d_M_measure_23 : decode c_M_measure 23 = .ok (.goto 4, 3) := by decide +kernel
theorem d_M_measure_26 : decode c_M_measure 26 = .ok (.iconst (-1), 1) := by decide +kernel
theorem d_M_measure_27 : decode c_M_measure 27 = .ok (.iastore, 1) := by decide +kernel
theorem d_M_measure_28 : decode c_M_measure 28 = .ok (.iinc 3 1, 3) := by decide +kernel
theorem d_M_measure_31 : decode c_M_measure 31 = .ok (.goto (-25), 3) := by decide +kernel
theorem d_M_measure_34 : decode c_M_measure 34 = .ok (.iconst 1, 1) := by decide +kernel
theorem d_M_measure_35 : decode c_M_measure 35 = .ok (.istore_n 3, 1) := by decide +kernel
theorem d_M_measure_36 : decode c_M_measure 36 = .ok (.iload_n 3, 1) := by decide +kernel
theorem d_M_measure_37 : decode c_M_measure 37 = .ok (.bipush 16, 2) := by decide +kernel
theorem d_M_measure_39 : decode c_M_measure 39 = .ok (.if_icmp .ge 69, 3) := by decide +kernel
theorem d_M_measure_42 : decode c_M_measure 42 = .ok (.iload_n 2, 1) := by decide +kernel
theorem d_M_measure_43 : decode c_M_measure 43 = .ok (.istore 4, 2) := by decide +kernel
theorem d_M_measure_45 : decode c_M_measure 45 = .ok (.iconst 0, 1) := by decide +kernel
theorem d_M_measure_46 : decode c_M_measure 46 = .ok (.istore 5, 2) := by decide +kernel
theorem d_M_measure_48 : decode c_M_measure 48 = .ok (.iload 5, 2) := by decide +kernel
theorem d_M_measure_50 : decode c_M_measure 50 = .ok (.bipush 16, 2) := by decide +kernel
theorem d_M_measure_52 : decode c_M_measure 52 = .ok (.if_icmp .ge 47, 3) := by decide +kernel
theorem d_M_measure_55 : decode c_M_measure 55 = .ok (.iload_n 2, 1) := by decide +kernel
theorem d_M_measure_56 : decode c_M_measure 56 = .ok (.iload 5, 2) := by decide +kernel
theorem d_M_measure_58 : decode c_M_measure 58 = .ok (.invokestatic 35, 3) := by decide +kernel
theorem d_M_measure_61 : decode c_M_measure 61 = .ok (.ifCond .ne 32, 3) := by decide +kernel
theorem d_M_measure_64 : decode c_M_measure 64 = .ok (.aload_n 0, 1) := by decide +kernel
theorem d_M_measure_65 : decode c_M_measure 65 = .ok (.getfield 7, 3) := by decide +kernel
theorem d_M_measure_68 : decode c_M_measure 68 = .ok (.iload 5, 2) := by decide +kernel
theorem d_M_measure_70 : decode c_M_measure 70 = .ok (.iaload, 1) := by decide +kernel
theorem d_M_measure_71 : decode c_M_measure 71 = .ok (.iload_n 2, 1) := by decide +kernel
theorem d_M_measure_72 : decode c_M_measure 72 = .ok (.iand, 1) := by decide +kernel
theorem d_M_measure_73 : decode c_M_measure 73 = .ok (.ifCond .eq 20, 3) := by decide +kernel
theorem d_M_measure_76 : decode c_M_measure 76 = .ok (.aload_n 0, 1) := by decide +kernel
theorem d_M_measure_77 : decode c_M_measure 77 = .ok (.getfield 19, 3) := by decide +kernel
theorem d_M_measure_80 : decode c_M_measure 80 = .ok (.iload 5, 2) := by decide +kernel
theorem d_M_measure_82 : decode c_M_measure 82 = .ok (.iload_n 3, 1) := by decide +kernel
theorem d_M_measure_83 : decode c_M_measure 83 = .ok (.iastore, 1) := by decide +kernel
theorem d_M_measure_84 : decode c_M_measure 84 = .ok (.iload 4, 2) := by decide +kernel
theorem d_M_measure_86 : decode c_M_measure 86 = .ok (.iconst 1, 1) := by decide +kernel
theorem d_M_measure_87 : decode c_M_measure 87 = .ok (.iload 5, 2) := by decide +kernel
theorem d_M_measure_89 : decode c_M_measure 89 = .ok (.ishl, 1) := by decide +kernel
theorem d_M_measure_90 : decode c_M_measure 90 = .ok (.ior, 1) := by decide +kernel
theorem d_M_measure_91 : decode c_M_measure 91 = .ok (.istore 4, 2) := by decide +kernel
theorem d_M_measure_93 : decode c_M_measure 93 = .ok (.iinc 5 1, 3) := by decide +kernel
theorem d_M_measure_96 : decode c_M_measure 96 = .ok (.goto (-48), 3) := by decide +kernel
theorem d_M_measure_99 : decode c_M_measure 99 = .ok (.iload 4, 2) := by decide +kernel
theorem d_M_measure_101 : decode c_M_measure 101 = .ok (.istore_n 2, 1) := by decide +kernel
theorem d_M_measure_102 : decode c_M_measure 102 = .ok (.iinc 3 1, 3) := by decide +kernel
theorem d_M_measure_105 : decode c_M_measure 105 = .ok (.goto (-69), 3) := by decide +kernel
theorem d_M_measure_108 : decode c_M_measure 108 = .ok (.return_, 1) := by decide +kernel
theorem d_M_way_0 : decode c_M_way 0 = .ok (.aload_n 0, 1) := by decide +kernel
theorem d_M_way_1 : decode c_M_way 1 = .ok (.iload_n 1, 1) := by decide +kernel
theorem d_M_way_2 : decode c_M_way 2 = .ok (.iload_n 2, 1) := by decide +kernel
theorem d_M_way_3 : decode c_M_way 3 = .ok (.invokevirtual 67, 3) := by decide +kernel
theorem d_M_way_6 : decode c_M_way 6 = .ok (.ifCond .eq 5, 3) := by decide +kernel
theorem d_M_way_9 : decode c_M_way 9 = .ok (.iconst 0, 1) := by decide +kernel
theorem d_M_way_10 : decode c_M_way 10 = .ok (.ireturn, 1) := by decide +kernel
theorem d_M_way_11 : decode c_M_way 11 = .ok (.aload_n 0, 1) := by decide +kernel
theorem d_M_way_12 : decode c_M_way 12 = .ok (.iload_n 2, 1) := by decide +kernel
theorem d_M_way_13 : decode c_M_way 13 = .ok (.invokevirtual 76, 3) := by decide +kernel
theorem d_M_way_16 : decode c_M_way 16 = .ok (.aload_n 0, 1) := by decide +kernel
theorem d_M_way_17 : decode c_M_way 17 = .ok (.aload_n 0, 1) := by decide +kernel
theorem d_M_way_18 : decode c_M_way 18 = .ok (.getfield 19, 3) := by decide +kernel
theorem d_M_way_21 : decode c_M_way 21 = .ok (.iload_n 1, 1) := by decide +kernel
theorem d_M_way_22 : decode c_M_way 22 = .ok (.iaload, 1) := by decide +kernel
theorem d_M_way_23 : decode c_M_way 23 = .ok (.ifCond .ge 7, 3) := by decide +kernel
theorem d_M_way_26 : decode c_M_way 26 = .ok (.iconst 2, 1) := by decide +kernel
theorem d_M_way_27 : decode c_M_way 27 = .ok (.goto 22, 3) := by decide +kernel
theorem d_M_way_30 : decode c_M_way 30 = .ok (.iload_n 3, 1) := by decide +kernel
theorem d_M_way_31 : decode c_M_way 31 = .ok (.ifCond .lt 13, 3) := by decide +kernel
theorem d_M_way_34 : decode c_M_way 34 = .ok (.iload_n 3, 1) := by decide +kernel
theorem d_M_way_35 : decode c_M_way 35 = .ok (.aload_n 0, 1) := by decide +kernel
theorem d_M_way_36 : decode c_M_way 36 = .ok (.getfield 19, 3) := by decide +kernel
theorem d_M_way_39 : decode c_M_way 39 = .ok (.iload_n 1, 1) := by decide +kernel
theorem d_M_way_40 : decode c_M_way 40 = .ok (.iaload, 1) := by decide +kernel
theorem d_M_way_41 : decode c_M_way 41 = .ok (.if_icmp .le 7, 3) := by decide +kernel
theorem d_M_way_44 : decode c_M_way 44 = .ok (.iconst 3, 1) := by decide +kernel
theorem d_M_way_45 : decode c_M_way 45 = .ok (.goto 4, 3) := by decide +kernel
theorem d_M_way_48 : decode c_M_way 48 = .ok (.iconst 0, 1) := by decide +kernel
theorem d_M_way_49 : decode c_M_way 49 = .ok (.putfield 31, 3) := by decide +kernel
theorem d_M_way_52 : decode c_M_way 52 = .ok (.aload_n 0, 1) := by decide +kernel
theorem d_M_way_53 : decode c_M_way 53 = .ok (.getfield 31, 3) := by decide +kernel
theorem d_M_way_56 : decode c_M_way 56 = .ok (.ifCond .le 5, 3) := by decide +kernel
theorem d_M_way_59 : decode c_M_way 59 = .ok (.iconst 0, 1) := by decide +kernel
theorem d_M_way_60 : decode c_M_way 60 = .ok (.ireturn, 1) := by decide +kernel
theorem d_M_way_61 : decode c_M_way 61 = .ok (.iload_n 1, 1) := by decide +kernel
theorem d_M_way_62 : decode c_M_way 62 = .ok (.istore 4, 2) := by decide +kernel
theorem d_M_way_64 : decode c_M_way 64 = .ok (.iconst 0, 1) := by decide +kernel
theorem d_M_way_65 : decode c_M_way 65 = .ok (.istore 5, 2) := by decide +kernel
theorem d_M_way_67 : decode c_M_way 67 = .ok (.iload 5, 2) := by decide +kernel
theorem d_M_way_69 : decode c_M_way 69 = .ok (.iload_n 3, 1) := by decide +kernel
theorem d_M_way_70 : decode c_M_way 70 = .ok (.if_icmp .ge 75, 3) := by decide +kernel
theorem d_M_way_73 : decode c_M_way 73 = .ok (.bipush 15, 2) := by decide +kernel
theorem d_M_way_75 : decode c_M_way 75 = .ok (.istore 6, 2) := by decide +kernel
theorem d_M_way_77 : decode c_M_way 77 = .ok (.bipush 15, 2) := by decide +kernel
theorem d_M_way_79 : decode c_M_way 79 = .ok (.istore 7, 2) := by decide +kernel
theorem d_M_way_81 : decode c_M_way 81 = .ok (.iload 7, 2) := by decide +kernel
theorem d_M_way_83 : decode c_M_way 83 = .ok (.ifCond .lt 52, 3) := by decide +kernel
theorem d_M_way_86 : decode c_M_way 86 = .ok (.aload_n 0, 1) := by decide +kernel
theorem d_M_way_87 : decode c_M_way 87 = .ok (.getfield 7, 3) := by decide +kernel
theorem d_M_way_90 : decode c_M_way 90 = .ok (.iload 4, 2) := by decide +kernel
theorem d_M_way_92 : decode c_M_way 92 = .ok (.iaload, 1) := by decide +kernel
theorem d_M_way_93 : decode c_M_way 93 = .ok (.iload 7, 2) := by decide +kernel
theorem d_M_way_95 : decode c_M_way 95 = .ok (.invokestatic 35, 3) := by decide +kernel
theorem d_M_way_98 : decode c_M_way 98 = .ok (.ifCond .eq 27, 3) := by decide +kernel
theorem d_M_way_101 : decode c_M_way 101 = .ok (.aload_n 0, 1) := by decide +kernel
theorem d_M_way_102 : decode c_M_way 102 = .ok (.getfield 19, 3) := by decide +kernel
theorem d_M_way_105 : decode c_M_way 105 = .ok (.iload 7, 2) := by decide +kernel
theorem d_M_way_107 : decode c_M_way 107 = .ok (.iaload, 1) := by decide +kernel
theorem d_M_way_108 : decode c_M_way 108 = .ok (.aload_n 0, 1) := by decide +kernel
theorem d_M_way_109 : decode c_M_way 109 = .ok (.getfield 19, 3) := by decide +kernel
theorem d_M_way_112 : decode c_M_way 112 = .ok (.iload 4, 2) := by decide +kernel
theorem d_M_way_114 : decode c_M_way 114 = .ok (.iaload, 1) := by decide +kernel
theorem d_M_way_115 : decode c_M_way 115 = .ok (.iconst 1, 1) := by decide +kernel
theorem d_M_way_116 : decode c_M_way 116 = .ok (.isub, 1) := by decide +kernel
theorem d_M_way_117 : decode c_M_way 117 = .ok (.if_icmp .ne 8, 3) := by decide +kernel
theorem d_M_way_120 : decode c_M_way 120 = .ok (.iload 7, 2) := by decide +kernel
theorem d_M_way_122 : decode c_M_way 122 = .ok (.goto 5, 3) := by decide +kernel
theorem d_M_way_125 : decode c_M_way 125 = .ok (.iload 6, 2) := by decide +kernel
theorem d_M_way_127 : decode c_M_way 127 = .ok (.istore 6, 2) := by decide +kernel
theorem d_M_way_129 : decode c_M_way 129 = .ok (.iinc 7 (-1), 3) := by decide +kernel
theorem d_M_way_132 : decode c_M_way 132 = .ok (.goto (-51), 3) := by decide +kernel
theorem d_M_way_135 : decode c_M_way 135 = .ok (.iload 6, 2) := by decide +kernel
theorem d_M_way_137 : decode c_M_way 137 = .ok (.istore 4, 2) := by decide +kernel
theorem d_M_way_139 : decode c_M_way 139 = .ok (.iinc 5 1, 3) := by decide +kernel
theorem d_M_way_142 : decode c_M_way 142 = .ok (.goto (-75), 3) := by decide +kernel
theorem d_M_way_145 : decode c_M_way 145 = .ok (.iload 4, 2) := by decide +kernel
theorem d_M_way_147 : decode c_M_way 147 = .ok (.ireturn, 1) := by decide +kernel
theorem d_M_gate_0 : decode c_M_gate 0 = .ok (.aload_n 0, 1) := by decide +kernel
theorem d_M_gate_1 : decode c_M_gate 1 = .ok (.iload_n 1, 1) := by decide +kernel
theorem d_M_gate_2 : decode c_M_gate 2 = .ok (.iload_n 2, 1) := by decide +kernel
theorem d_M_gate_3 : decode c_M_gate 3 = .ok (.invokevirtual 67, 3) := by decide +kernel
theorem d_M_gate_6 : decode c_M_gate 6 = .ok (.ifCond .eq 5, 3) := by decide +kernel
theorem d_M_gate_9 : decode c_M_gate 9 = .ok (.iconst 0, 1) := by decide +kernel
theorem d_M_gate_10 : decode c_M_gate 10 = .ok (.ireturn, 1) := by decide +kernel
theorem d_M_gate_11 : decode c_M_gate 11 = .ok (.aload_n 0, 1) := by decide +kernel
theorem d_M_gate_12 : decode c_M_gate 12 = .ok (.aload_n 0, 1) := by decide +kernel
theorem d_M_gate_13 : decode c_M_gate 13 = .ok (.iload_n 1, 1) := by decide +kernel
theorem d_M_gate_14 : decode c_M_gate 14 = .ok (.invokevirtual 51, 3) := by decide +kernel
theorem d_M_gate_17 : decode c_M_gate 17 = .ok (.iload_n 2, 1) := by decide +kernel
theorem d_M_gate_18 : decode c_M_gate 18 = .ok (.invokestatic 35, 3) := by decide +kernel
theorem d_M_gate_21 : decode c_M_gate 21 = .ok (.ifCond .eq 7, 3) := by decide +kernel
theorem d_M_gate_24 : decode c_M_gate 24 = .ok (.iconst 0, 1) := by decide +kernel
theorem d_M_gate_25 : decode c_M_gate 25 = .ok (.goto 4, 3) := by decide +kernel
theorem d_M_gate_28 : decode c_M_gate 28 = .ok (.iconst 2, 1) := by decide +kernel
theorem d_M_gate_29 : decode c_M_gate 29 = .ok (.putfield 31, 3) := by decide +kernel
theorem d_M_gate_32 : decode c_M_gate 32 = .ok (.aload_n 0, 1) := by decide +kernel
theorem d_M_gate_33 : decode c_M_gate 33 = .ok (.getfield 31, 3) := by decide +kernel
theorem d_M_gate_36 : decode c_M_gate 36 = .ok (.ifCond .gt 8, 3) := by decide +kernel
theorem d_M_gate_39 : decode c_M_gate 39 = .ok (.iload_n 1, 1) := by decide +kernel
theorem d_M_gate_40 : decode c_M_gate 40 = .ok (.iload_n 2, 1) := by decide +kernel
theorem d_M_gate_41 : decode c_M_gate 41 = .ok (.if_icmp .ne 16, 3) := by decide +kernel
theorem d_M_gate_44 : decode c_M_gate 44 = .ok (.aload_n 0, 1) := by decide +kernel
theorem d_M_gate_45 : decode c_M_gate 45 = .ok (.getfield 31, 3) := by decide +kernel
theorem d_M_gate_48 : decode c_M_gate 48 = .ok (.ifCond .le 7, 3) := by decide +kernel
theorem d_M_gate_51 : decode c_M_gate 51 = .ok (.iconst 0, 1) := by decide +kernel
theorem d_M_gate_52 : decode c_M_gate 52 = .ok (.goto 4, 3) := by decide +kernel
theorem d_M_gate_55 : decode c_M_gate 55 = .ok (.iconst (-1), 1) := by decide +kernel
theorem d_M_gate_56 : decode c_M_gate 56 = .ok (.ireturn, 1) := by decide +kernel
theorem d_M_gate_57 : decode c_M_gate 57 = .ok (.iconst (-1), 1) := by decide +kernel
theorem d_M_gate_58 : decode c_M_gate 58 = .ok (.istore_n 3, 1) := by decide +kernel
theorem d_M_gate_59 : decode c_M_gate 59 = .ok (.iconst 0, 1) := by decide +kernel
theorem d_M_gate_60 : decode c_M_gate 60 = .ok (.istore 4, 2) := by decide +kernel
theorem d_M_gate_62 : decode c_M_gate 62 = .ok (.iload 4, 2) := by decide +kernel
theorem d_M_gate_64 : decode c_M_gate 64 = .ok (.bipush 16, 2) := by decide +kernel
theorem d_M_gate_66 : decode c_M_gate 66 = .ok (.if_icmp .ge 128, 3) := by decide +kernel
theorem d_M_gate_69 : decode c_M_gate 69 = .ok (.iload 4, 2) := by decide +kernel
theorem d_M_gate_71 : decode c_M_gate 71 = .ok (.iload_n 2, 1) := by decide +kernel
theorem d_M_gate_72 : decode c_M_gate 72 = .ok (.if_icmp .eq 31, 3) := by decide +kernel
theorem d_M_gate_75 : decode c_M_gate 75 = .ok (.aload_n 0, 1) := by decide +kernel
theorem d_M_gate_76 : decode c_M_gate 76 = .ok (.iload_n 1, 1) := by decide +kernel
theorem d_M_gate_77 : decode c_M_gate 77 = .ok (.invokevirtual 51, 3) := by decide +kernel
theorem d_M_gate_80 : decode c_M_gate 80 = .ok (.iload 4, 2) := by decide +kernel
theorem d_M_gate_82 : decode c_M_gate 82 = .ok (.invokestatic 35, 3) := by decide +kernel
theorem d_M_gate_85 : decode c_M_gate 85 = .ok (.ifCond .eq 18, 3) := by decide +kernel
theorem d_M_gate_88 : decode c_M_gate 88 = .ok (.aload_n 0, 1) := by decide +kernel
theorem d_M_gate_89 : decode c_M_gate 89 = .ok (.iload_n 1, 1) := by decide +kernel
theorem d_M_gate_90 : decode c_M_gate 90 = .ok (.iload_n 2, 1) := by decide +kernel
theorem d_M_gate_91 : decode c_M_gate 91 = .ok (.iload 4, 2) := by decide +kernel
theorem d_M_gate_93 : decode c_M_gate 93 = .ok (.invokevirtual 80, 3) := by decide +kernel
theorem d_M_gate_96 : decode c_M_gate 96 = .ok (.ifCond .eq 7, 3) := by decide +kernel
theorem d_M_gate_99 : decode c_M_gate 99 = .ok (.iconst 1, 1) := by decide +kernel
theorem d_M_gate_100 : decode c_M_gate 100 = .ok (.goto 4, 3) := by decide +kernel
theorem d_M_gate_103 : decode c_M_gate 103 = .ok (.iconst 0, 1) := by decide +kernel
theorem d_M_gate_104 : decode c_M_gate 104 = .ok (.istore 5, 2) := by decide +kernel
theorem d_M_gate_106 : decode c_M_gate 106 = .ok (.iconst 0, 1) := by decide +kernel
theorem d_M_gate_107 : decode c_M_gate 107 = .ok (.istore 6, 2) := by decide +kernel
theorem d_M_gate_109 : decode c_M_gate 109 = .ok (.iload 6, 2) := by decide +kernel
theorem d_M_gate_111 : decode c_M_gate 111 = .ok (.bipush 16, 2) := by decide +kernel
theorem d_M_gate_113 : decode c_M_gate 113 = .ok (.if_icmp .ge 63, 3) := by decide +kernel
theorem d_M_gate_116 : decode c_M_gate 116 = .ok (.iload 5, 2) := by decide +kernel
theorem d_M_gate_118 : decode c_M_gate 118 = .ok (.ifCond .eq 58, 3) := by decide +kernel
theorem d_M_gate_121 : decode c_M_gate 121 = .ok (.iload 6, 2) := by decide +kernel
theorem d_M_gate_123 : decode c_M_gate 123 = .ok (.iload_n 2, 1) := by decide +kernel
theorem d_M_gate_124 : decode c_M_gate 124 = .ok (.if_icmp .eq 39, 3) := by decide +kernel
theorem d_M_gate_127 : decode c_M_gate 127 = .ok (.aload_n 0, 1) := by decide +kernel
theorem d_M_gate_128 : decode c_M_gate 128 = .ok (.iload_n 1, 1) := by decide +kernel
theorem d_M_gate_129 : decode c_M_gate 129 = .ok (.invokevirtual 51, 3) := by decide +kernel
theorem d_M_gate_132 : decode c_M_gate 132 = .ok (.iload 6, 2) := by decide +kernel
theorem d_M_gate_134 : decode c_M_gate 134 = .ok (.invokestatic 35, 3) := by decide +kernel
theorem d_M_gate_137 : decode c_M_gate 137 = .ok (.ifCond .eq 26, 3) := by decide +kernel
theorem d_M_gate_140 : decode c_M_gate 140 = .ok (.aload_n 0, 1) := by decide +kernel
theorem d_M_gate_141 : decode c_M_gate 141 = .ok (.iload_n 1, 1) := by decide +kernel
theorem d_M_gate_142 : decode c_M_gate 142 = .ok (.iload_n 2, 1) := by decide +kernel
theorem d_M_gate_143 : decode c_M_gate 143 = .ok (.iload 6, 2) := by decide +kernel
theorem d_M_gate_145 : decode c_M_gate 145 = .ok (.invokevirtual 80, 3) := by decide +kernel
theorem d_M_gate_148 : decode c_M_gate 148 = .ok (.ifCond .eq 15, 3) := by decide +kernel
theorem d_M_gate_151 : decode c_M_gate 151 = .ok (.aload_n 0, 1) := by decide +kernel
theorem d_M_gate_152 : decode c_M_gate 152 = .ok (.iload_n 1, 1) := by decide +kernel
theorem d_M_gate_153 : decode c_M_gate 153 = .ok (.iload 4, 2) := by decide +kernel
theorem d_M_gate_155 : decode c_M_gate 155 = .ok (.iload 6, 2) := by decide +kernel
theorem d_M_gate_157 : decode c_M_gate 157 = .ok (.invokevirtual 80, 3) := by decide +kernel
theorem d_M_gate_160 : decode c_M_gate 160 = .ok (.ifCond .eq 7, 3) := by decide +kernel
theorem d_M_gate_163 : decode c_M_gate 163 = .ok (.iconst 1, 1) := by decide +kernel
theorem d_M_gate_164 : decode c_M_gate 164 = .ok (.goto 4, 3) := by decide +kernel
theorem d_M_gate_167 : decode c_M_gate 167 = .ok (.iconst 0, 1) := by decide +kernel
theorem d_M_gate_168 : decode c_M_gate 168 = .ok (.istore 5, 2) := by decide +kernel
theorem d_M_gate_170 : decode c_M_gate 170 = .ok (.iinc 6 1, 3) := by decide +kernel
theorem d_M_gate_173 : decode c_M_gate 173 = .ok (.goto (-64), 3) := by decide +kernel
theorem d_M_gate_176 : decode c_M_gate 176 = .ok (.iload 5, 2) := by decide +kernel
theorem d_M_gate_178 : decode c_M_gate 178 = .ok (.ifCond .eq 8, 3) := by decide +kernel
theorem d_M_gate_181 : decode c_M_gate 181 = .ok (.iload 4, 2) := by decide +kernel
theorem d_M_gate_183 : decode c_M_gate 183 = .ok (.goto 4, 3) := by decide +kernel
theorem d_M_gate_186 : decode c_M_gate 186 = .ok (.iload_n 3, 1) := by decide +kernel
theorem d_M_gate_187 : decode c_M_gate 187 = .ok (.istore_n 3, 1) := by decide +kernel
theorem d_M_gate_188 : decode c_M_gate 188 = .ok (.iinc 4 1, 3) := by decide +kernel
theorem d_M_gate_191 : decode c_M_gate 191 = .ok (.goto (-129), 3) := by decide +kernel
theorem d_M_gate_194 : decode c_M_gate 194 = .ok (.iload_n 3, 1) := by decide +kernel
theorem d_M_gate_195 : decode c_M_gate 195 = .ok (.ireturn, 1) := by decide +kernel
theorem d_M_dependent_0 : decode c_M_dependent 0 = .ok (.iload_n 3, 1) := by decide +kernel
theorem d_M_dependent_1 : decode c_M_dependent 1 = .ok (.iload_n 1, 1) := by decide +kernel
theorem d_M_dependent_2 : decode c_M_dependent 2 = .ok (.if_icmp .eq 30, 3) := by decide +kernel
theorem d_M_dependent_5 : decode c_M_dependent 5 = .ok (.iload_n 3, 1) := by decide +kernel
theorem d_M_dependent_6 : decode c_M_dependent 6 = .ok (.iload_n 2, 1) := by decide +kernel
theorem d_M_dependent_7 : decode c_M_dependent 7 = .ok (.if_icmp .eq 25, 3) := by decide +kernel
theorem d_M_dependent_10 : decode c_M_dependent 10 = .ok (.aload_n 0, 1) := by decide +kernel
theorem d_M_dependent_11 : decode c_M_dependent 11 = .ok (.iconst 1, 1) := by decide +kernel
theorem d_M_dependent_12 : decode c_M_dependent 12 = .ok (.iload_n 1, 1) := by decide +kernel
theorem d_M_dependent_13 : decode c_M_dependent 13 = .ok (.ishl, 1) := by decide +kernel
theorem d_M_dependent_14 : decode c_M_dependent 14 = .ok (.ldc 39, 2) := by decide +kernel
theorem d_M_dependent_16 : decode c_M_dependent 16 = .ok (.iconst 1, 1) := by decide +kernel
theorem d_M_dependent_17 : decode c_M_dependent 17 = .ok (.iload_n 3, 1) := by decide +kernel
theorem d_M_dependent_18 : decode c_M_dependent 18 = .ok (.ishl, 1) := by decide +kernel
theorem d_M_dependent_19 : decode c_M_dependent 19 = .ok (.iconst (-1), 1) := by decide +kernel
theorem d_M_dependent_20 : decode c_M_dependent 20 = .ok (.ixor, 1) := by decide +kernel
theorem d_M_dependent_21 : decode c_M_dependent 21 = .ok (.iand, 1) := by decide +kernel
theorem d_M_dependent_22 : decode c_M_dependent 22 = .ok (.invokevirtual 40, 3) := by decide +kernel
theorem d_M_dependent_25 : decode c_M_dependent 25 = .ok (.iload_n 2, 1) := by decide +kernel
theorem d_M_dependent_26 : decode c_M_dependent 26 = .ok (.invokestatic 35, 3) := by decide +kernel
theorem d_M_dependent_29 : decode c_M_dependent 29 = .ok (.ifCond .ne 7, 3) := by decide +kernel
theorem d_M_dependent_32 : decode c_M_dependent 32 = .ok (.iconst 1, 1) := by decide +kernel
theorem d_M_dependent_33 : decode c_M_dependent 33 = .ok (.goto 4, 3) := by decide +kernel
theorem d_M_dependent_36 : decode c_M_dependent 36 = .ok (.iconst 0, 1) := by decide +kernel
theorem d_M_dependent_37 : decode c_M_dependent 37 = .ok (.ireturn, 1) := by decide +kernel
theorem d_M_gated_0 : decode c_M_gated 0 = .ok (.aload_n 0, 1) := by decide +kernel
theorem d_M_gated_1 : decode c_M_gated 1 = .ok (.iload_n 1, 1) := by decide +kernel
theorem d_M_gated_2 : decode c_M_gated 2 = .ok (.iload_n 2, 1) := by decide +kernel
theorem d_M_gated_3 : decode c_M_gated 3 = .ok (.invokevirtual 67, 3) := by decide +kernel
theorem d_M_gated_6 : decode c_M_gated 6 = .ok (.ifCond .eq 5, 3) := by decide +kernel
theorem d_M_gated_9 : decode c_M_gated 9 = .ok (.iconst 0, 1) := by decide +kernel
theorem d_M_gated_10 : decode c_M_gated 10 = .ok (.ireturn, 1) := by decide +kernel
theorem d_M_gated_11 : decode c_M_gated 11 = .ok (.aload_n 0, 1) := by decide +kernel
theorem d_M_gated_12 : decode c_M_gated 12 = .ok (.iload_n 1, 1) := by decide +kernel
theorem d_M_gated_13 : decode c_M_gated 13 = .ok (.invokevirtual 51, 3) := by decide +kernel
theorem d_M_gated_16 : decode c_M_gated 16 = .ok (.istore_n 3, 1) := by decide +kernel
theorem d_M_gated_17 : decode c_M_gated 17 = .ok (.iconst 0, 1) := by decide +kernel
theorem d_M_gated_18 : decode c_M_gated 18 = .ok (.istore 4, 2) := by decide +kernel
theorem d_M_gated_20 : decode c_M_gated 20 = .ok (.iconst 0, 1) := by decide +kernel
theorem d_M_gated_21 : decode c_M_gated 21 = .ok (.istore 5, 2) := by decide +kernel
theorem d_M_gated_23 : decode c_M_gated 23 = .ok (.iload 5, 2) := by decide +kernel
theorem d_M_gated_25 : decode c_M_gated 25 = .ok (.bipush 16, 2) := by decide +kernel
theorem d_M_gated_27 : decode c_M_gated 27 = .ok (.if_icmp .ge 47, 3) := by decide +kernel
theorem d_M_gated_30 : decode c_M_gated 30 = .ok (.iload 4, 2) := by decide +kernel
theorem d_M_gated_32 : decode c_M_gated 32 = .ok (.iload_n 3, 1) := by decide +kernel
theorem d_M_gated_33 : decode c_M_gated 33 = .ok (.iload_n 2, 1) := by decide +kernel
theorem d_M_gated_34 : decode c_M_gated 34 = .ok (.invokestatic 35, 3) := by decide +kernel
theorem d_M_gated_37 : decode c_M_gated 37 = .ok (.ifCond .eq 27, 3) := by decide +kernel
theorem d_M_gated_40 : decode c_M_gated 40 = .ok (.iload_n 3, 1) := by decide +kernel
theorem d_M_gated_41 : decode c_M_gated 41 = .ok (.iload 5, 2) := by decide +kernel
theorem d_M_gated_43 : decode c_M_gated 43 = .ok (.invokestatic 35, 3) := by decide +kernel
theorem d_M_gated_46 : decode c_M_gated 46 = .ok (.ifCond .eq 18, 3) := by decide +kernel
theorem d_M_gated_49 : decode c_M_gated 49 = .ok (.aload_n 0, 1) := by decide +kernel
theorem d_M_gated_50 : decode c_M_gated 50 = .ok (.iload_n 1, 1) := by decide +kernel
theorem d_M_gated_51 : decode c_M_gated 51 = .ok (.iload 5, 2) := by decide +kernel
theorem d_M_gated_53 : decode c_M_gated 53 = .ok (.iload_n 2, 1) := by decide +kernel
theorem d_M_gated_54 : decode c_M_gated 54 = .ok (.invokevirtual 80, 3) := by decide +kernel
theorem d_M_gated_57 : decode c_M_gated 57 = .ok (.ifCond .eq 7, 3) := by decide +kernel
theorem d_M_gated_60 : decode c_M_gated 60 = .ok (.iconst 1, 1) := by decide +kernel
theorem d_M_gated_61 : decode c_M_gated 61 = .ok (.goto 4, 3) := by decide +kernel
theorem d_M_gated_64 : decode c_M_gated 64 = .ok (.iconst 0, 1) := by decide +kernel
theorem d_M_gated_65 : decode c_M_gated 65 = .ok (.iadd, 1) := by decide +kernel
theorem d_M_gated_66 : decode c_M_gated 66 = .ok (.istore 4, 2) := by decide +kernel
theorem d_M_gated_68 : decode c_M_gated 68 = .ok (.iinc 5 1, 3) := by decide +kernel
theorem d_M_gated_71 : decode c_M_gated 71 = .ok (.goto (-48), 3) := by decide +kernel
theorem d_M_gated_74 : decode c_M_gated 74 = .ok (.iload 4, 2) := by decide +kernel
theorem d_M_gated_76 : decode c_M_gated 76 = .ok (.ireturn, 1) := by decide +kernel
theorem d_M_places_0 : decode c_M_places 0 = .ok (.aload_n 0, 1) := by decide +kernel
theorem d_M_places_1 : decode c_M_places 1 = .ok (.iload_n 1, 1) := by decide +kernel
theorem d_M_places_2 : decode c_M_places 2 = .ok (.iload_n 2, 1) := by decide +kernel
theorem d_M_places_3 : decode c_M_places 3 = .ok (.invokevirtual 67, 3) := by decide +kernel
theorem d_M_places_6 : decode c_M_places 6 = .ok (.ifCond .eq 5, 3) := by decide +kernel
theorem d_M_places_9 : decode c_M_places 9 = .ok (.iconst 0, 1) := by decide +kernel
theorem d_M_places_10 : decode c_M_places 10 = .ok (.ireturn, 1) := by decide +kernel
theorem d_M_places_11 : decode c_M_places 11 = .ok (.iload_n 1, 1) := by decide +kernel
theorem d_M_places_12 : decode c_M_places 12 = .ok (.iload_n 2, 1) := by decide +kernel
theorem d_M_places_13 : decode c_M_places 13 = .ok (.if_icmp .eq 16, 3) := by decide +kernel
theorem d_M_places_16 : decode c_M_places 16 = .ok (.aload_n 0, 1) := by decide +kernel
theorem d_M_places_17 : decode c_M_places 17 = .ok (.getfield 7, 3) := by decide +kernel
theorem d_M_places_20 : decode c_M_places 20 = .ok (.iload_n 1, 1) := by decide +kernel
theorem d_M_places_21 : decode c_M_places 21 = .ok (.iaload, 1) := by decide +kernel
theorem d_M_places_22 : decode c_M_places 22 = .ok (.iload_n 2, 1) := by decide +kernel
theorem d_M_places_23 : decode c_M_places 23 = .ok (.invokestatic 35, 3) := by decide +kernel
theorem d_M_places_26 : decode c_M_places 26 = .ok (.ifCond .eq 5, 3) := by decide +kernel
theorem d_M_places_29 : decode c_M_places 29 = .ok (.iconst (-1), 1) := by decide +kernel
theorem d_M_places_30 : decode c_M_places 30 = .ok (.ireturn, 1) := by decide +kernel
theorem d_M_places_31 : decode c_M_places 31 = .ok (.iconst 0, 1) := by decide +kernel
theorem d_M_places_32 : decode c_M_places 32 = .ok (.istore_n 3, 1) := by decide +kernel
theorem d_M_places_33 : decode c_M_places 33 = .ok (.iload_n 3, 1) := by decide +kernel
theorem d_M_places_34 : decode c_M_places 34 = .ok (.bipush 16, 2) := by decide +kernel
theorem d_M_places_36 : decode c_M_places 36 = .ok (.if_icmp .ge 50, 3) := by decide +kernel
theorem d_M_places_39 : decode c_M_places 39 = .ok (.aload_n 0, 1) := by decide +kernel
theorem d_M_places_40 : decode c_M_places 40 = .ok (.getfield 22, 3) := by decide +kernel
theorem d_M_places_43 : decode c_M_places 43 = .ok (.iload_n 3, 1) := by decide +kernel
theorem d_M_places_44 : decode c_M_places 44 = .ok (.iload_n 3, 1) := by decide +kernel
theorem d_M_places_45 : decode c_M_places 45 = .ok (.iload_n 1, 1) := by decide +kernel
theorem d_M_places_46 : decode c_M_places 46 = .ok (.if_icmp .eq 8, 3) := by decide +kernel
theorem d_M_places_49 : decode c_M_places 49 = .ok (.iload_n 3, 1) := by decide +kernel
theorem d_M_places_50 : decode c_M_places 50 = .ok (.iload_n 2, 1) := by decide +kernel
theorem d_M_places_51 : decode c_M_places 51 = .ok (.if_icmp .ne 7, 3) := by decide +kernel
theorem d_M_places_54 : decode c_M_places 54 = .ok (.iconst 0, 1) := by decide +kernel
theorem d_M_places_55 : decode c_M_places 55 = .ok (.goto 9, 3) := by decide +kernel
theorem d_M_places_58 : decode c_M_places 58 = .ok (.iconst 1, 1) := by decide +kernel
theorem d_M_places_59 : decode c_M_places 59 = .ok (.bipush 16, 2) := by decide +kernel
theorem d_M_places_61 : decode c_M_places 61 = .ok (.iload_n 3, 1) := by decide +kernel
theorem d_M_places_62 : decode c_M_places 62 = .ok (.iadd, 1) := by decide +kernel
theorem d_M_places_63 : decode c_M_places 63 = .ok (.ishl, 1) := by decide +kernel
theorem d_M_places_64 : decode c_M_places 64 = .ok (.iastore, 1) := by decide +kernel
theorem d_M_places_65 : decode c_M_places 65 = .ok (.aload_n 0, 1) := by decide +kernel
theorem d_M_places_66 : decode c_M_places 66 = .ok (.getfield 22, 3) := by decide +kernel
theorem d_M_places_69 : decode c_M_places 69 = .ok (.bipush 16, 2) := by decide +kernel
theorem d_M_places_71 : decode c_M_places 71 = .ok (.iload_n 3, 1) := by decide +kernel
theorem d_M_places_72 : decode c_M_places 72 = .ok (.iadd, 1) := by decide +kernel
theorem d_M_places_73 : decode c_M_places 73 = .ok (.aload_n 0, 1) := by decide +kernel
theorem d_M_places_74 : decode c_M_places 74 = .ok (.getfield 7, 3) := by decide +kernel
theorem d_M_places_77 : decode c_M_places 77 = .ok (.iload_n 3, 1) := by decide +kernel
theorem d_M_places_78 : decode c_M_places 78 = .ok (.iaload, 1) := by decide +kernel
theorem d_M_places_79 : decode c_M_places 79 = .ok (.iastore, 1) := by decide +kernel
theorem d_M_places_80 : decode c_M_places 80 = .ok (.iinc 3 1, 3) := by decide +kernel
theorem d_M_places_83 : decode c_M_places 83 = .ok (.goto (-50), 3) := by decide +kernel
theorem d_M_places_86 : decode c_M_places 86 = .ok (.aload_n 0, 1) := by decide +kernel
theorem d_M_places_87 : decode c_M_places 87 = .ok (.bipush 16, 2) := by decide +kernel
theorem d_M_places_89 : decode c_M_places 89 = .ok (.iload_n 1, 1) := by decide +kernel
theorem d_M_places_90 : decode c_M_places 90 = .ok (.iadd, 1) := by decide +kernel
theorem d_M_places_91 : decode c_M_places 91 = .ok (.iload_n 2, 1) := by decide +kernel
theorem d_M_places_92 : decode c_M_places 92 = .ok (.invokevirtual 90, 3) := by decide +kernel
theorem d_M_places_95 : decode c_M_places 95 = .ok (.ireturn, 1) := by decide +kernel
theorem d_M_apart_0 : decode c_M_apart 0 = .ok (.iconst 0, 1) := by decide +kernel
theorem d_M_apart_1 : decode c_M_apart 1 = .ok (.istore_n 3, 1) := by decide +kernel
theorem d_M_apart_2 : decode c_M_apart 2 = .ok (.iconst 0, 1) := by decide +kernel
theorem d_M_apart_3 : decode c_M_apart 3 = .ok (.istore 4, 2) := by decide +kernel
theorem d_M_apart_5 : decode c_M_apart 5 = .ok (.iload 4, 2) := by decide +kernel
theorem d_M_apart_7 : decode c_M_apart 7 = .ok (.bipush 32, 2) := by decide +kernel
theorem d_M_apart_9 : decode c_M_apart 9 = .ok (.if_icmp .ge 17, 3) := by decide +kernel
theorem d_M_apart_12 : decode c_M_apart 12 = .ok (.aload_n 0, 1) := by decide +kernel
theorem d_M_apart_13 : decode c_M_apart 13 = .ok (.getfield 25, 3) := by decide +kernel
theorem d_M_apart_16 : decode c_M_apart 16 = .ok (.iload 4, 2) := by decide +kernel
theorem d_M_apart_18 : decode c_M_apart 18 = .ok (.iconst 0, 1) := by decide +kernel
theorem d_M_apart_19 : decode c_M_apart 19 = .ok (.iastore, 1) := by decide +kernel
theorem d_M_apart_20 : decode c_M_apart 20 = .ok (.iinc 4 1, 3) := by decide +kernel
theorem d_M_apart_23 : decode c_M_apart 23 = .ok (.goto (-18), 3) := by decide +kernel
theorem d_M_apart_26 : decode c_M_apart 26 = .ok (.aload_n 0, 1) := by decide +kernel
theorem d_M_apart_27 : decode c_M_apart 27 = .ok (.iload_n 1, 1) := by decide +kernel
theorem d_M_apart_28 : decode c_M_apart 28 = .ok (.iload_n 2, 1) := by decide +kernel
theorem d_M_apart_29 : decode c_M_apart 29 = .ok (.invokevirtual 87, 3) := by decide +kernel
theorem d_M_apart_32 : decode c_M_apart 32 = .ok (.ifCond .eq 82, 3) := by decide +kernel
theorem d_M_apart_35 : decode c_M_apart 35 = .ok (.iload_n 2, 1) := by decide +kernel
theorem d_M_apart_36 : decode c_M_apart 36 = .ok (.istore 4, 2) := by decide +kernel
theorem d_M_apart_38 : decode c_M_apart 38 = .ok (.iload 4, 2) := by decide +kernel
theorem d_M_apart_40 : decode c_M_apart 40 = .ok (.iload_n 1, 1) := by decide +kernel
theorem d_M_apart_41 : decode c_M_apart 41 = .ok (.if_icmp .eq 67, 3) := by decide +kernel
theorem d_M_apart_44 : decode c_M_apart 44 = .ok (.aload_n 0, 1) := by decide +kernel
theorem d_M_apart_45 : decode c_M_apart 45 = .ok (.getfield 28, 3) := by decide +kernel
theorem d_M_apart_48 : decode c_M_apart 48 = .ok (.iload 4, 2) := by decide +kernel
theorem d_M_apart_50 : decode c_M_apart 50 = .ok (.iaload, 1) := by decide +kernel
theorem d_M_apart_51 : decode c_M_apart 51 = .ok (.istore 5, 2) := by decide +kernel
theorem d_M_apart_53 : decode c_M_apart 53 = .ok (.aload_n 0, 1) := by decide +kernel
theorem d_M_apart_54 : decode c_M_apart 54 = .ok (.getfield 25, 3) := by decide +kernel
theorem d_M_apart_57 : decode c_M_apart 57 = .ok (.iload 4, 2) := by decide +kernel
theorem d_M_apart_59 : decode c_M_apart 59 = .ok (.iaload, 1) := by decide +kernel
theorem d_M_apart_60 : decode c_M_apart 60 = .ok (.iload 5, 2) := by decide +kernel
theorem d_M_apart_62 : decode c_M_apart 62 = .ok (.invokestatic 84, 3) := by decide +kernel
theorem d_M_apart_65 : decode c_M_apart 65 = .ok (.ifCond .eq 22, 3) := by decide +kernel
theorem d_M_apart_68 : decode c_M_apart 68 = .ok (.aload_n 0, 1) := by decide +kernel
theorem d_M_apart_69 : decode c_M_apart 69 = .ok (.getfield 25, 3) := by decide +kernel
theorem d_M_apart_72 : decode c_M_apart 72 = .ok (.iload 4, 2) := by decide +kernel
theorem d_M_apart_74 : decode c_M_apart 74 = .ok (.dup2, 1) := by decide +kernel
theorem d_M_apart_75 : decode c_M_apart 75 = .ok (.iaload, 1) := by decide +kernel
theorem d_M_apart_76 : decode c_M_apart 76 = .ok (.iconst 1, 1) := by decide +kernel
theorem d_M_apart_77 : decode c_M_apart 77 = .ok (.iload 5, 2) := by decide +kernel
theorem d_M_apart_79 : decode c_M_apart 79 = .ok (.ishl, 1) := by decide +kernel
theorem d_M_apart_80 : decode c_M_apart 80 = .ok (.iconst (-1), 1) := by decide +kernel
theorem d_M_apart_81 : decode c_M_apart 81 = .ok (.ixor, 1) := by decide +kernel
theorem d_M_apart_82 : decode c_M_apart 82 = .ok (.iand, 1) := by decide +kernel
theorem d_M_apart_83 : decode c_M_apart 83 = .ok (.iastore, 1) := by decide +kernel
theorem d_M_apart_84 : decode c_M_apart 84 = .ok (.goto 17, 3) := by decide +kernel
theorem d_M_apart_87 : decode c_M_apart 87 = .ok (.aload_n 0, 1) := by decide +kernel
theorem d_M_apart_88 : decode c_M_apart 88 = .ok (.getfield 25, 3) := by decide +kernel
theorem d_M_apart_91 : decode c_M_apart 91 = .ok (.iload 5, 2) := by decide +kernel
theorem d_M_apart_93 : decode c_M_apart 93 = .ok (.dup2, 1) := by decide +kernel
theorem d_M_apart_94 : decode c_M_apart 94 = .ok (.iaload, 1) := by decide +kernel
theorem d_M_apart_95 : decode c_M_apart 95 = .ok (.iconst 1, 1) := by decide +kernel
theorem d_M_apart_96 : decode c_M_apart 96 = .ok (.iload 4, 2) := by decide +kernel
theorem d_M_apart_98 : decode c_M_apart 98 = .ok (.ishl, 1) := by decide +kernel
theorem d_M_apart_99 : decode c_M_apart 99 = .ok (.ior, 1) := by decide +kernel
theorem d_M_apart_100 : decode c_M_apart 100 = .ok (.iastore, 1) := by decide +kernel
theorem d_M_apart_101 : decode c_M_apart 101 = .ok (.iload 5, 2) := by decide +kernel
theorem d_M_apart_103 : decode c_M_apart 103 = .ok (.istore 4, 2) := by decide +kernel
theorem d_M_apart_105 : decode c_M_apart 105 = .ok (.goto (-67), 3) := by decide +kernel
theorem d_M_apart_108 : decode c_M_apart 108 = .ok (.iinc 3 1, 3) := by decide +kernel
theorem d_M_apart_111 : decode c_M_apart 111 = .ok (.goto (-85), 3) := by decide +kernel
theorem d_M_apart_114 : decode c_M_apart 114 = .ok (.iload_n 3, 1) := by decide +kernel
theorem d_M_apart_115 : decode c_M_apart 115 = .ok (.ireturn, 1) := by decide +kernel
theorem d_M_finds_0 : decode c_M_finds 0 = .ok (.iconst 0, 1) := by decide +kernel
theorem d_M_finds_1 : decode c_M_finds 1 = .ok (.istore_n 3, 1) := by decide +kernel
theorem d_M_finds_2 : decode c_M_finds 2 = .ok (.iload_n 3, 1) := by decide +kernel
theorem d_M_finds_3 : decode c_M_finds 3 = .ok (.bipush 32, 2) := by decide +kernel
theorem d_M_finds_5 : decode c_M_finds 5 = .ok (.if_icmp .ge 25, 3) := by decide +kernel
theorem d_M_finds_8 : decode c_M_finds 8 = .ok (.aload_n 0, 1) := by decide +kernel
theorem d_M_finds_9 : decode c_M_finds 9 = .ok (.getfield 28, 3) := by decide +kernel
theorem d_M_finds_12 : decode c_M_finds 12 = .ok (.iload_n 3, 1) := by decide +kernel
theorem d_M_finds_13 : decode c_M_finds 13 = .ok (.iload_n 3, 1) := by decide +kernel
theorem d_M_finds_14 : decode c_M_finds 14 = .ok (.iload_n 1, 1) := by decide +kernel
theorem d_M_finds_15 : decode c_M_finds 15 = .ok (.if_icmp .ne 7, 3) := by decide +kernel
theorem d_M_finds_18 : decode c_M_finds 18 = .ok (.iload_n 1, 1) := by decide +kernel
theorem d_M_finds_19 : decode c_M_finds 19 = .ok (.goto 4, 3) := by decide +kernel
theorem d_M_finds_22 : decode c_M_finds 22 = .ok (.iconst (-1), 1) := by decide +kernel
theorem d_M_finds_23 : decode c_M_finds 23 = .ok (.iastore, 1) := by decide +kernel
theorem d_M_finds_24 : decode c_M_finds 24 = .ok (.iinc 3 1, 3) := by decide +kernel
theorem d_M_finds_27 : decode c_M_finds 27 = .ok (.goto (-25), 3) := by decide +kernel
theorem d_M_finds_30 : decode c_M_finds 30 = .ok (.iconst 1, 1) := by decide +kernel
theorem d_M_finds_31 : decode c_M_finds 31 = .ok (.istore_n 3, 1) := by decide +kernel
theorem d_M_finds_32 : decode c_M_finds 32 = .ok (.iload_n 3, 1) := by decide +kernel
theorem d_M_finds_33 : decode c_M_finds 33 = .ok (.ifCond .eq 137, 3) := by decide +kernel
theorem d_M_finds_36 : decode c_M_finds 36 = .ok (.aload_n 0, 1) := by decide +kernel
theorem d_M_finds_37 : decode c_M_finds 37 = .ok (.getfield 28, 3) := by decide +kernel
theorem d_M_finds_40 : decode c_M_finds 40 = .ok (.iload_n 2, 1) := by decide +kernel
theorem d_M_finds_41 : decode c_M_finds 41 = .ok (.iaload, 1) := by decide +kernel
theorem d_M_finds_42 : decode c_M_finds 42 = .ok (.ifCond .ge 128, 3) := by decide +kernel
theorem d_M_finds_45 : decode c_M_finds 45 = .ok (.iconst 0, 1) := by decide +kernel
theorem d_M_finds_46 : decode c_M_finds 46 = .ok (.istore_n 3, 1) := by decide +kernel
theorem d_M_finds_47 : decode c_M_finds 47 = .ok (.iconst 0, 1) := by decide +kernel
theorem d_M_finds_48 : decode c_M_finds 48 = .ok (.istore 4, 2) := by decide +kernel
theorem d_M_finds_50 : decode c_M_finds 50 = .ok (.iload 4, 2) := by decide +kernel
theorem d_M_finds_52 : decode c_M_finds 52 = .ok (.bipush 32, 2) := by decide +kernel
theorem d_M_finds_54 : decode c_M_finds 54 = .ok (.if_icmp .ge 113, 3) := by decide +kernel
theorem d_M_finds_57 : decode c_M_finds 57 = .ok (.iconst 0, 1) := by decide +kernel
theorem d_M_finds_58 : decode c_M_finds 58 = .ok (.istore 5, 2) := by decide +kernel
theorem d_M_finds_60 : decode c_M_finds 60 = .ok (.iload 5, 2) := by decide +kernel
theorem d_M_finds_62 : decode c_M_finds 62 = .ok (.bipush 32, 2) := by decide +kernel
theorem d_M_finds_64 : decode c_M_finds 64 = .ok (.if_icmp .ge 97, 3) := by decide +kernel
theorem d_M_finds_67 : decode c_M_finds 67 = .ok (.aload_n 0, 1) := by decide +kernel
theorem d_M_finds_68 : decode c_M_finds 68 = .ok (.getfield 28, 3) := by decide +kernel
theorem d_M_finds_71 : decode c_M_finds 71 = .ok (.iload 4, 2) := by decide +kernel
theorem d_M_finds_73 : decode c_M_finds 73 = .ok (.iaload, 1) := by decide +kernel
theorem d_M_finds_74 : decode c_M_finds 74 = .ok (.ifCond .lt 87, 3) := by decide +kernel
theorem d_M_finds_77 : decode c_M_finds 77 = .ok (.aload_n 0, 1) := by decide +kernel
theorem d_M_finds_78 : decode c_M_finds 78 = .ok (.getfield 22, 3) := by decide +kernel
theorem d_M_finds_81 : decode c_M_finds 81 = .ok (.iload 4, 2) := by decide +kernel
theorem d_M_finds_83 : decode c_M_finds 83 = .ok (.iaload, 1) := by decide +kernel
theorem d_M_finds_84 : decode c_M_finds 84 = .ok (.iload 5, 2) := by decide +kernel
theorem d_M_finds_86 : decode c_M_finds 86 = .ok (.invokestatic 84, 3) := by decide +kernel
theorem d_M_finds_89 : decode c_M_finds 89 = .ok (.ifCond .eq 18, 3) := by decide +kernel
theorem d_M_finds_92 : decode c_M_finds 92 = .ok (.aload_n 0, 1) := by decide +kernel
theorem d_M_finds_93 : decode c_M_finds 93 = .ok (.getfield 25, 3) := by decide +kernel
theorem d_M_finds_96 : decode c_M_finds 96 = .ok (.iload 4, 2) := by decide +kernel
theorem d_M_finds_98 : decode c_M_finds 98 = .ok (.iaload, 1) := by decide +kernel
theorem d_M_finds_99 : decode c_M_finds 99 = .ok (.iload 5, 2) := by decide +kernel
theorem d_M_finds_101 : decode c_M_finds 101 = .ok (.invokestatic 84, 3) := by decide +kernel
theorem d_M_finds_104 : decode c_M_finds 104 = .ok (.ifCond .eq 18, 3) := by decide +kernel
theorem d_M_finds_107 : decode c_M_finds 107 = .ok (.aload_n 0, 1) := by decide +kernel
theorem d_M_finds_108 : decode c_M_finds 108 = .ok (.getfield 25, 3) := by decide +kernel
theorem d_M_finds_111 : decode c_M_finds 111 = .ok (.iload 5, 2) := by decide +kernel
theorem d_M_finds_113 : decode c_M_finds 113 = .ok (.iaload, 1) := by decide +kernel
theorem d_M_finds_114 : decode c_M_finds 114 = .ok (.iload 4, 2) := by decide +kernel
theorem d_M_finds_116 : decode c_M_finds 116 = .ok (.invokestatic 84, 3) := by decide +kernel
theorem d_M_finds_119 : decode c_M_finds 119 = .ok (.ifCond .eq 7, 3) := by decide +kernel
theorem d_M_finds_122 : decode c_M_finds 122 = .ok (.iconst 1, 1) := by decide +kernel
theorem d_M_finds_123 : decode c_M_finds 123 = .ok (.goto 4, 3) := by decide +kernel
theorem d_M_finds_126 : decode c_M_finds 126 = .ok (.iconst 0, 1) := by decide +kernel
theorem d_M_finds_127 : decode c_M_finds 127 = .ok (.istore 6, 2) := by decide +kernel
theorem d_M_finds_129 : decode c_M_finds 129 = .ok (.iload 6, 2) := by decide +kernel
theorem d_M_finds_131 : decode c_M_finds 131 = .ok (.ifCond .eq 24, 3) := by decide +kernel
theorem d_M_finds_134 : decode c_M_finds 134 = .ok (.aload_n 0, 1) := by decide +kernel
theorem d_M_finds_135 : decode c_M_finds 135 = .ok (.getfield 28, 3) := by decide +kernel
theorem d_M_finds_138 : decode c_M_finds 138 = .ok (.iload 5, 2) := by decide +kernel
theorem d_M_finds_140 : decode c_M_finds 140 = .ok (.iaload, 1) := by decide +kernel
theorem d_M_finds_141 : decode c_M_finds 141 = .ok (.ifCond .ge 14, 3) := by decide +kernel
theorem d_M_finds_144 : decode c_M_finds 144 = .ok (.aload_n 0, 1) := by decide +kernel
theorem d_M_finds_145 : decode c_M_finds 145 = .ok (.getfield 28, 3) := by decide +kernel
theorem d_M_finds_148 : decode c_M_finds 148 = .ok (.iload 5, 2) := by decide +kernel
theorem d_M_finds_150 : decode c_M_finds 150 = .ok (.iload 4, 2) := by decide +kernel
theorem d_M_finds_152 : decode c_M_finds 152 = .ok (.iastore, 1) := by decide +kernel
theorem d_M_finds_153 : decode c_M_finds 153 = .ok (.iconst 1, 1) := by decide +kernel
theorem d_M_finds_154 : decode c_M_finds 154 = .ok (.istore_n 3, 1) := by decide +kernel
theorem d_M_finds_155 : decode c_M_finds 155 = .ok (.iinc 5 1, 3) := by decide +kernel
theorem d_M_finds_158 : decode c_M_finds 158 = .ok (.goto (-98), 3) := by decide +kernel
theorem d_M_finds_161 : decode c_M_finds 161 = .ok (.iinc 4 1, 3) := by decide +kernel
theorem d_M_finds_164 : decode c_M_finds 164 = .ok (.goto (-114), 3) := by decide +kernel
theorem d_M_finds_167 : decode c_M_finds 167 = .ok (.goto (-135), 3) := by decide +kernel
theorem d_M_finds_170 : decode c_M_finds 170 = .ok (.aload_n 0, 1) := by decide +kernel
theorem d_M_finds_171 : decode c_M_finds 171 = .ok (.getfield 28, 3) := by decide +kernel
theorem d_M_finds_174 : decode c_M_finds 174 = .ok (.iload_n 2, 1) := by decide +kernel
theorem d_M_finds_175 : decode c_M_finds 175 = .ok (.iaload, 1) := by decide +kernel
theorem d_M_finds_176 : decode c_M_finds 176 = .ok (.ifCond .lt 7, 3) := by decide +kernel
theorem d_M_finds_179 : decode c_M_finds 179 = .ok (.iconst 1, 1) := by decide +kernel
theorem d_M_finds_180 : decode c_M_finds 180 = .ok (.goto 4, 3) := by decide +kernel
theorem d_M_finds_183 : decode c_M_finds 183 = .ok (.iconst 0, 1) := by decide +kernel
theorem d_M_finds_184 : decode c_M_finds 184 = .ok (.ireturn, 1) := by decide +kernel
theorem d_M_at_0 : decode c_M_at 0 = .ok (.iload_n 0, 1) := by decide +kernel
theorem d_M_at_1 : decode c_M_at 1 = .ok (.iload_n 1, 1) := by decide +kernel
theorem d_M_at_2 : decode c_M_at 2 = .ok (.iushr, 1) := by decide +kernel
theorem d_M_at_3 : decode c_M_at 3 = .ok (.iconst 1, 1) := by decide +kernel
theorem d_M_at_4 : decode c_M_at 4 = .ok (.iand, 1) := by decide +kernel
theorem d_M_at_5 : decode c_M_at 5 = .ok (.iconst 1, 1) := by decide +kernel
theorem d_M_at_6 : decode c_M_at 6 = .ok (.if_icmp .ne 7, 3) := by decide +kernel
theorem d_M_at_9 : decode c_M_at 9 = .ok (.iconst 1, 1) := by decide +kernel
theorem d_M_at_10 : decode c_M_at 10 = .ok (.goto 4, 3) := by decide +kernel
theorem d_M_at_13 : decode c_M_at 13 = .ok (.iconst 0, 1) := by decide +kernel
theorem d_M_at_14 : decode c_M_at 14 = .ok (.ireturn, 1) := by decide +kernel
theorem d_M_arrows_0 : decode c_M_arrows 0 = .ok (.aload_n 0, 1) := by decide +kernel
theorem d_M_arrows_1 : decode c_M_arrows 1 = .ok (.iload_n 1, 1) := by decide +kernel
theorem d_M_arrows_2 : decode c_M_arrows 2 = .ok (.iload_n 2, 1) := by decide +kernel
theorem d_M_arrows_3 : decode c_M_arrows 3 = .ok (.invokevirtual 67, 3) := by decide +kernel
theorem d_M_arrows_6 : decode c_M_arrows 6 = .ok (.ifCond .eq 5, 3) := by decide +kernel
theorem d_M_arrows_9 : decode c_M_arrows 9 = .ok (.iconst 0, 1) := by decide +kernel
theorem d_M_arrows_10 : decode c_M_arrows 10 = .ok (.ireturn, 1) := by decide +kernel
theorem d_M_arrows_11 : decode c_M_arrows 11 = .ok (.iload_n 1, 1) := by decide +kernel
theorem d_M_arrows_12 : decode c_M_arrows 12 = .ok (.iload_n 2, 1) := by decide +kernel
theorem d_M_arrows_13 : decode c_M_arrows 13 = .ok (.if_icmp .ne 5, 3) := by decide +kernel
theorem d_M_arrows_16 : decode c_M_arrows 16 = .ok (.iconst (-1), 1) := by decide +kernel
theorem d_M_arrows_17 : decode c_M_arrows 17 = .ok (.ireturn, 1) := by decide +kernel
theorem d_M_arrows_18 : decode c_M_arrows 18 = .ok (.iconst 0, 1) := by decide +kernel
theorem d_M_arrows_19 : decode c_M_arrows 19 = .ok (.istore_n 3, 1) := by decide +kernel
theorem d_M_arrows_20 : decode c_M_arrows 20 = .ok (.iload_n 3, 1) := by decide +kernel
theorem d_M_arrows_21 : decode c_M_arrows 21 = .ok (.bipush 16, 2) := by decide +kernel
theorem d_M_arrows_23 : decode c_M_arrows 23 = .ok (.if_icmp .ge 31, 3) := by decide +kernel
theorem d_M_arrows_26 : decode c_M_arrows 26 = .ok (.aload_n 0, 1) := by decide +kernel
theorem d_M_arrows_27 : decode c_M_arrows 27 = .ok (.getfield 22, 3) := by decide +kernel
theorem d_M_arrows_30 : decode c_M_arrows 30 = .ok (.iload_n 3, 1) := by decide +kernel
theorem d_M_arrows_31 : decode c_M_arrows 31 = .ok (.aload_n 0, 1) := by decide +kernel
theorem d_M_arrows_32 : decode c_M_arrows 32 = .ok (.getfield 7, 3) := by decide +kernel
theorem d_M_arrows_35 : decode c_M_arrows 35 = .ok (.iload_n 3, 1) := by decide +kernel
theorem d_M_arrows_36 : decode c_M_arrows 36 = .ok (.iaload, 1) := by decide +kernel
theorem d_M_arrows_37 : decode c_M_arrows 37 = .ok (.iastore, 1) := by decide +kernel
theorem d_M_arrows_38 : decode c_M_arrows 38 = .ok (.aload_n 0, 1) := by decide +kernel
theorem d_M_arrows_39 : decode c_M_arrows 39 = .ok (.getfield 22, 3) := by decide +kernel
theorem d_M_arrows_42 : decode c_M_arrows 42 = .ok (.bipush 16, 2) := by decide +kernel
theorem d_M_arrows_44 : decode c_M_arrows 44 = .ok (.iload_n 3, 1) := by decide +kernel
theorem d_M_arrows_45 : decode c_M_arrows 45 = .ok (.iadd, 1) := by decide +kernel
theorem d_M_arrows_46 : decode c_M_arrows 46 = .ok (.iconst 0, 1) := by decide +kernel
theorem d_M_arrows_47 : decode c_M_arrows 47 = .ok (.iastore, 1) := by decide +kernel
theorem d_M_arrows_48 : decode c_M_arrows 48 = .ok (.iinc 3 1, 3) := by decide +kernel
theorem d_M_arrows_51 : decode c_M_arrows 51 = .ok (.goto (-31), 3) := by decide +kernel
theorem d_M_arrows_54 : decode c_M_arrows 54 = .ok (.aload_n 0, 1) := by decide +kernel
theorem d_M_arrows_55 : decode c_M_arrows 55 = .ok (.iload_n 1, 1) := by decide +kernel
theorem d_M_arrows_56 : decode c_M_arrows 56 = .ok (.iload_n 2, 1) := by decide +kernel
theorem d_M_arrows_57 : decode c_M_arrows 57 = .ok (.invokevirtual 90, 3) := by decide +kernel
theorem d_M_arrows_60 : decode c_M_arrows 60 = .ok (.ireturn, 1) := by decide +kernel
theorem d_M_figure_0 : decode c_M_figure 0 = .ok (.aload_n 0, 1) := by decide +kernel
theorem d_M_figure_1 : decode c_M_figure 1 = .ok (.iload_n 1, 1) := by decide +kernel
theorem d_M_figure_2 : decode c_M_figure 2 = .ok (.ifCond .lt 8, 3) := by decide +kernel
theorem d_M_figure_5 : decode c_M_figure 5 = .ok (.iload_n 1, 1) := by decide +kernel
theorem d_M_figure_6 : decode c_M_figure 6 = .ok (.iconst 5, 1) := by decide +kernel
theorem d_M_figure_7 : decode c_M_figure 7 = .ok (.if_icmp .le 7, 3) := by decide +kernel
theorem d_M_figure_10 : decode c_M_figure 10 = .ok (.iconst 1, 1) := by decide +kernel
theorem d_M_figure_11 : decode c_M_figure 11 = .ok (.goto 4, 3) := by decide +kernel
theorem d_M_figure_14 : decode c_M_figure 14 = .ok (.iconst 0, 1) := by decide +kernel
theorem d_M_figure_15 : decode c_M_figure 15 = .ok (.putfield 31, 3) := by decide +kernel
theorem d_M_figure_18 : decode c_M_figure 18 = .ok (.aload_n 0, 1) := by decide +kernel
theorem d_M_figure_19 : decode c_M_figure 19 = .ok (.getfield 31, 3) := by decide +kernel
theorem d_M_figure_22 : decode c_M_figure 22 = .ok (.ifCond .le 5, 3) := by decide +kernel
theorem d_M_figure_25 : decode c_M_figure 25 = .ok (.iconst 0, 1) := by decide +kernel
theorem d_M_figure_26 : decode c_M_figure 26 = .ok (.ireturn, 1) := by decide +kernel
theorem d_M_figure_27 : decode c_M_figure 27 = .ok (.aload_n 0, 1) := by decide +kernel
theorem d_M_figure_28 : decode c_M_figure 28 = .ok (.invokevirtual 73, 3) := by decide +kernel
theorem d_M_figure_31 : decode c_M_figure 31 = .ok (.iload_n 1, 1) := by decide +kernel
theorem d_M_figure_32 : decode c_M_figure 32 = .ok (.tableswitch 63 0 4 #[36, 41, 46, 52, 58], 36) := by decide +kernel
theorem d_M_figure_68 : decode c_M_figure 68 = .ok (.aload_n 0, 1) := by decide +kernel
theorem d_M_figure_69 : decode c_M_figure 69 = .ok (.getfield 48, 3) := by decide +kernel
theorem d_M_figure_72 : decode c_M_figure 72 = .ok (.ireturn, 1) := by decide +kernel
theorem d_M_figure_73 : decode c_M_figure 73 = .ok (.aload_n 0, 1) := by decide +kernel
theorem d_M_figure_74 : decode c_M_figure 74 = .ok (.getfield 58, 3) := by decide +kernel
theorem d_M_figure_77 : decode c_M_figure 77 = .ok (.ireturn, 1) := by decide +kernel
theorem d_M_figure_78 : decode c_M_figure 78 = .ok (.aload_n 0, 1) := by decide +kernel
theorem d_M_figure_79 : decode c_M_figure 79 = .ok (.iconst 0, 1) := by decide +kernel
theorem d_M_figure_80 : decode c_M_figure 80 = .ok (.invokevirtual 99, 3) := by decide +kernel
theorem d_M_figure_83 : decode c_M_figure 83 = .ok (.ireturn, 1) := by decide +kernel
theorem d_M_figure_84 : decode c_M_figure 84 = .ok (.aload_n 0, 1) := by decide +kernel
theorem d_M_figure_85 : decode c_M_figure 85 = .ok (.iconst 1, 1) := by decide +kernel
theorem d_M_figure_86 : decode c_M_figure 86 = .ok (.invokevirtual 99, 3) := by decide +kernel
theorem d_M_figure_89 : decode c_M_figure 89 = .ok (.ireturn, 1) := by decide +kernel
theorem d_M_figure_90 : decode c_M_figure 90 = .ok (.aload_n 0, 1) := by decide +kernel
theorem d_M_figure_91 : decode c_M_figure 91 = .ok (.invokevirtual 103, 3) := by decide +kernel
theorem d_M_figure_94 : decode c_M_figure 94 = .ok (.ireturn, 1) := by decide +kernel
theorem d_M_figure_95 : decode c_M_figure 95 = .ok (.aload_n 0, 1) := by decide +kernel
theorem d_M_figure_96 : decode c_M_figure 96 = .ok (.invokevirtual 107, 3) := by decide +kernel
theorem d_M_figure_99 : decode c_M_figure 99 = .ok (.ireturn, 1) := by decide +kernel
theorem d_M_pairs_0 : decode c_M_pairs 0 = .ok (.iconst 0, 1) := by decide +kernel
theorem d_M_pairs_1 : decode c_M_pairs 1 = .ok (.istore_n 2, 1) := by decide +kernel
theorem d_M_pairs_2 : decode c_M_pairs 2 = .ok (.iconst 0, 1) := by decide +kernel
theorem d_M_pairs_3 : decode c_M_pairs 3 = .ok (.istore_n 3, 1) := by decide +kernel
theorem d_M_pairs_4 : decode c_M_pairs 4 = .ok (.iload_n 3, 1) := by decide +kernel
theorem d_M_pairs_5 : decode c_M_pairs 5 = .ok (.aload_n 0, 1) := by decide +kernel
theorem d_M_pairs_6 : decode c_M_pairs 6 = .ok (.getfield 58, 3) := by decide +kernel
theorem d_M_pairs_9 : decode c_M_pairs 9 = .ok (.if_icmp .ge 83, 3) := by decide +kernel
theorem d_M_pairs_12 : decode c_M_pairs 12 = .ok (.iconst 0, 1) := by decide +kernel
theorem d_M_pairs_13 : decode c_M_pairs 13 = .ok (.istore 4, 2) := by decide +kernel
theorem d_M_pairs_15 : decode c_M_pairs 15 = .ok (.iload 4, 2) := by decide +kernel
theorem d_M_pairs_17 : decode c_M_pairs 17 = .ok (.aload_n 0, 1) := by decide +kernel
theorem d_M_pairs_18 : decode c_M_pairs 18 = .ok (.getfield 58, 3) := by decide +kernel
theorem d_M_pairs_21 : decode c_M_pairs 21 = .ok (.if_icmp .ge 65, 3) := by decide +kernel
theorem d_M_pairs_24 : decode c_M_pairs 24 = .ok (.aload_n 0, 1) := by decide +kernel
theorem d_M_pairs_25 : decode c_M_pairs 25 = .ok (.aload_n 0, 1) := by decide +kernel
theorem d_M_pairs_26 : decode c_M_pairs 26 = .ok (.getfield 13, 3) := by decide +kernel
theorem d_M_pairs_29 : decode c_M_pairs 29 = .ok (.iload_n 3, 1) := by decide +kernel
theorem d_M_pairs_30 : decode c_M_pairs 30 = .ok (.iaload, 1) := by decide +kernel
theorem d_M_pairs_31 : decode c_M_pairs 31 = .ok (.aload_n 0, 1) := by decide +kernel
theorem d_M_pairs_32 : decode c_M_pairs 32 = .ok (.getfield 13, 3) := by decide +kernel
theorem d_M_pairs_35 : decode c_M_pairs 35 = .ok (.iload 4, 2) := by decide +kernel
theorem d_M_pairs_37 : decode c_M_pairs 37 = .ok (.iaload, 1) := by decide +kernel
theorem d_M_pairs_38 : decode c_M_pairs 38 = .ok (.invokevirtual 93, 3) := by decide +kernel
theorem d_M_pairs_41 : decode c_M_pairs 41 = .ok (.istore 5, 2) := by decide +kernel
theorem d_M_pairs_43 : decode c_M_pairs 43 = .ok (.iload_n 2, 1) := by decide +kernel
theorem d_M_pairs_44 : decode c_M_pairs 44 = .ok (.iload 5, 2) := by decide +kernel
theorem d_M_pairs_46 : decode c_M_pairs 46 = .ok (.ifCond .eq 31, 3) := by decide +kernel
theorem d_M_pairs_49 : decode c_M_pairs 49 = .ok (.iload_n 1, 1) := by decide +kernel
theorem d_M_pairs_50 : decode c_M_pairs 50 = .ok (.ifCond .eq 23, 3) := by decide +kernel
theorem d_M_pairs_53 : decode c_M_pairs 53 = .ok (.aload_n 0, 1) := by decide +kernel
theorem d_M_pairs_54 : decode c_M_pairs 54 = .ok (.aload_n 0, 1) := by decide +kernel
theorem d_M_pairs_55 : decode c_M_pairs 55 = .ok (.getfield 13, 3) := by decide +kernel
theorem d_M_pairs_58 : decode c_M_pairs 58 = .ok (.iload_n 3, 1) := by decide +kernel
theorem d_M_pairs_59 : decode c_M_pairs 59 = .ok (.iaload, 1) := by decide +kernel
theorem d_M_pairs_60 : decode c_M_pairs 60 = .ok (.aload_n 0, 1) := by decide +kernel
theorem d_M_pairs_61 : decode c_M_pairs 61 = .ok (.getfield 13, 3) := by decide +kernel
theorem d_M_pairs_64 : decode c_M_pairs 64 = .ok (.iload 4, 2) := by decide +kernel
theorem d_M_pairs_66 : decode c_M_pairs 66 = .ok (.iaload, 1) := by decide +kernel
theorem d_M_pairs_67 : decode c_M_pairs 67 = .ok (.invokevirtual 96, 3) := by decide +kernel
theorem d_M_pairs_70 : decode c_M_pairs 70 = .ok (.ifCond .ne 7, 3) := by decide +kernel
theorem d_M_pairs_73 : decode c_M_pairs 73 = .ok (.iconst 1, 1) := by decide +kernel
theorem d_M_pairs_74 : decode c_M_pairs 74 = .ok (.goto 4, 3) := by decide +kernel
theorem d_M_pairs_77 : decode c_M_pairs 77 = .ok (.iconst 0, 1) := by decide +kernel
theorem d_M_pairs_78 : decode c_M_pairs 78 = .ok (.iadd, 1) := by decide +kernel
theorem d_M_pairs_79 : decode c_M_pairs 79 = .ok (.istore_n 2, 1) := by decide +kernel
theorem d_M_pairs_80 : decode c_M_pairs 80 = .ok (.iinc 4 1, 3) := by decide +kernel
theorem d_M_pairs_83 : decode c_M_pairs 83 = .ok (.goto (-68), 3) := by decide +kernel
theorem d_M_pairs_86 : decode c_M_pairs 86 = .ok (.iinc 3 1, 3) := by decide +kernel
theorem d_M_pairs_89 : decode c_M_pairs 89 = .ok (.goto (-85), 3) := by decide +kernel
theorem d_M_pairs_92 : decode c_M_pairs 92 = .ok (.iload_n 2, 1) := by decide +kernel
theorem d_M_pairs_93 : decode c_M_pairs 93 = .ok (.ireturn, 1) := by decide +kernel
theorem d_M_leads_0 : decode c_M_leads 0 = .ok (.iload_n 1, 1) := by decide +kernel
theorem d_M_leads_1 : decode c_M_leads 1 = .ok (.iload_n 2, 1) := by decide +kernel
theorem d_M_leads_2 : decode c_M_leads 2 = .ok (.if_icmp .eq 27, 3) := by decide +kernel
theorem d_M_leads_5 : decode c_M_leads 5 = .ok (.aload_n 0, 1) := by decide +kernel
theorem d_M_leads_6 : decode c_M_leads 6 = .ok (.aload_n 0, 1) := by decide +kernel
theorem d_M_leads_7 : decode c_M_leads 7 = .ok (.getfield 16, 3) := by decide +kernel
theorem d_M_leads_10 : decode c_M_leads 10 = .ok (.iload_n 1, 1) := by decide +kernel
theorem d_M_leads_11 : decode c_M_leads 11 = .ok (.iaload, 1) := by decide +kernel
theorem d_M_leads_12 : decode c_M_leads 12 = .ok (.invokevirtual 64, 3) := by decide +kernel
theorem d_M_leads_15 : decode c_M_leads 15 = .ok (.aload_n 0, 1) := by decide +kernel
theorem d_M_leads_16 : decode c_M_leads 16 = .ok (.getfield 16, 3) := by decide +kernel
theorem d_M_leads_19 : decode c_M_leads 19 = .ok (.iload_n 2, 1) := by decide +kernel
theorem d_M_leads_20 : decode c_M_leads 20 = .ok (.iaload, 1) := by decide +kernel
theorem d_M_leads_21 : decode c_M_leads 21 = .ok (.iand, 1) := by decide +kernel
theorem d_M_leads_22 : decode c_M_leads 22 = .ok (.ifCond .eq 7, 3) := by decide +kernel
theorem d_M_leads_25 : decode c_M_leads 25 = .ok (.iconst 1, 1) := by decide +kernel
theorem d_M_leads_26 : decode c_M_leads 26 = .ok (.goto 4, 3) := by decide +kernel
theorem d_M_leads_29 : decode c_M_leads 29 = .ok (.iconst 0, 1) := by decide +kernel
theorem d_M_leads_30 : decode c_M_leads 30 = .ok (.ireturn, 1) := by decide +kernel
theorem d_M_otherwise_0 : decode c_M_otherwise 0 = .ok (.iconst 0, 1) := by decide +kernel
theorem d_M_otherwise_1 : decode c_M_otherwise 1 = .ok (.istore_n 3, 1) := by decide +kernel
theorem d_M_otherwise_2 : decode c_M_otherwise 2 = .ok (.iload_n 3, 1) := by decide +kernel
theorem d_M_otherwise_3 : decode c_M_otherwise 3 = .ok (.bipush 16, 2) := by decide +kernel
theorem d_M_otherwise_5 : decode c_M_otherwise 5 = .ok (.if_icmp .ge 55, 3) := by decide +kernel
theorem d_M_otherwise_8 : decode c_M_otherwise 8 = .ok (.aload_n 0, 1) := by decide +kernel
theorem d_M_otherwise_9 : decode c_M_otherwise 9 = .ok (.getfield 28, 3) := by decide +kernel
theorem d_M_otherwise_12 : decode c_M_otherwise 12 = .ok (.iload_n 3, 1) := by decide +kernel
theorem d_M_otherwise_13 : decode c_M_otherwise 13 = .ok (.aload_n 0, 1) := by decide +kernel
theorem d_M_otherwise_14 : decode c_M_otherwise 14 = .ok (.getfield 7, 3) := by decide +kernel
theorem d_M_otherwise_17 : decode c_M_otherwise 17 = .ok (.iload_n 3, 1) := by decide +kernel
theorem d_M_otherwise_18 : decode c_M_otherwise 18 = .ok (.iaload, 1) := by decide +kernel
theorem d_M_otherwise_19 : decode c_M_otherwise 19 = .ok (.iastore, 1) := by decide +kernel
theorem d_M_otherwise_20 : decode c_M_otherwise 20 = .ok (.aload_n 0, 1) := by decide +kernel
theorem d_M_otherwise_21 : decode c_M_otherwise 21 = .ok (.getfield 7, 3) := by decide +kernel
theorem d_M_otherwise_24 : decode c_M_otherwise 24 = .ok (.iload_n 3, 1) := by decide +kernel
theorem d_M_otherwise_25 : decode c_M_otherwise 25 = .ok (.dup2, 1) := by decide +kernel
theorem d_M_otherwise_26 : decode c_M_otherwise 26 = .ok (.iaload, 1) := by decide +kernel
theorem d_M_otherwise_27 : decode c_M_otherwise 27 = .ok (.aload_n 0, 1) := by decide +kernel
theorem d_M_otherwise_28 : decode c_M_otherwise 28 = .ok (.getfield 16, 3) := by decide +kernel
theorem d_M_otherwise_31 : decode c_M_otherwise 31 = .ok (.iload_n 1, 1) := by decide +kernel
theorem d_M_otherwise_32 : decode c_M_otherwise 32 = .ok (.iaload, 1) := by decide +kernel
theorem d_M_otherwise_33 : decode c_M_otherwise 33 = .ok (.iload_n 3, 1) := by decide +kernel
theorem d_M_otherwise_34 : decode c_M_otherwise 34 = .ok (.invokestatic 35, 3) := by decide +kernel
theorem d_M_otherwise_37 : decode c_M_otherwise 37 = .ok (.ifCond .eq 14, 3) := by decide +kernel
theorem d_M_otherwise_40 : decode c_M_otherwise 40 = .ok (.aload_n 0, 1) := by decide +kernel
theorem d_M_otherwise_41 : decode c_M_otherwise 41 = .ok (.getfield 16, 3) := by decide +kernel
theorem d_M_otherwise_44 : decode c_M_otherwise 44 = .ok (.iload_n 2, 1) := by decide +kernel
theorem d_M_otherwise_45 : decode c_M_otherwise 45 = .ok (.iaload, 1) := by decide +kernel
theorem d_M_otherwise_46 : decode c_M_otherwise 46 = .ok (.iconst (-1), 1) := by decide +kernel
theorem d_M_otherwise_47 : decode c_M_otherwise 47 = .ok (.ixor, 1) := by decide +kernel
theorem d_M_otherwise_48 : decode c_M_otherwise 48 = .ok (.goto 4, 3) := by decide +kernel
theorem d_M_otherwise_51 : decode c_M_otherwise 51 = .ok (.iconst (-1), 1) := by decide +kernel
theorem d_M_otherwise_52 : decode c_M_otherwise 52 = .ok (.iand, 1) := by decide +kernel
theorem d_M_otherwise_53 : decode c_M_otherwise 53 = .ok (.iastore, 1) := by decide +kernel
theorem d_M_otherwise_54 : decode c_M_otherwise 54 = .ok (.iinc 3 1, 3) := by decide +kernel
theorem d_M_otherwise_57 : decode c_M_otherwise 57 = .ok (.goto (-55), 3) := by decide +kernel
theorem d_M_otherwise_60 : decode c_M_otherwise 60 = .ok (.aload_n 0, 1) := by decide +kernel
theorem d_M_otherwise_61 : decode c_M_otherwise 61 = .ok (.aload_n 0, 1) := by decide +kernel
theorem d_M_otherwise_62 : decode c_M_otherwise 62 = .ok (.getfield 16, 3) := by decide +kernel
theorem d_M_otherwise_65 : decode c_M_otherwise 65 = .ok (.iload_n 1, 1) := by decide +kernel
theorem d_M_otherwise_66 : decode c_M_otherwise 66 = .ok (.iaload, 1) := by decide +kernel
theorem d_M_otherwise_67 : decode c_M_otherwise 67 = .ok (.ldc 39, 2) := by decide +kernel
theorem d_M_otherwise_69 : decode c_M_otherwise 69 = .ok (.invokevirtual 40, 3) := by decide +kernel
theorem d_M_otherwise_72 : decode c_M_otherwise 72 = .ok (.istore_n 3, 1) := by decide +kernel
theorem d_M_otherwise_73 : decode c_M_otherwise 73 = .ok (.iconst 0, 1) := by decide +kernel
theorem d_M_otherwise_74 : decode c_M_otherwise 74 = .ok (.istore 4, 2) := by decide +kernel
theorem d_M_otherwise_76 : decode c_M_otherwise 76 = .ok (.iload 4, 2) := by decide +kernel
theorem d_M_otherwise_78 : decode c_M_otherwise 78 = .ok (.bipush 16, 2) := by decide +kernel
theorem d_M_otherwise_80 : decode c_M_otherwise 80 = .ok (.if_icmp .ge 23, 3) := by decide +kernel
theorem d_M_otherwise_83 : decode c_M_otherwise 83 = .ok (.aload_n 0, 1) := by decide +kernel
theorem d_M_otherwise_84 : decode c_M_otherwise 84 = .ok (.getfield 7, 3) := by decide +kernel
theorem d_M_otherwise_87 : decode c_M_otherwise 87 = .ok (.iload 4, 2) := by decide +kernel
theorem d_M_otherwise_89 : decode c_M_otherwise 89 = .ok (.aload_n 0, 1) := by decide +kernel
theorem d_M_otherwise_90 : decode c_M_otherwise 90 = .ok (.getfield 28, 3) := by decide +kernel
theorem d_M_otherwise_93 : decode c_M_otherwise 93 = .ok (.iload 4, 2) := by decide +kernel
theorem d_M_otherwise_95 : decode c_M_otherwise 95 = .ok (.iaload, 1) := by decide +kernel
theorem d_M_otherwise_96 : decode c_M_otherwise 96 = .ok (.iastore, 1) := by decide +kernel
theorem d_M_otherwise_97 : decode c_M_otherwise 97 = .ok (.iinc 4 1, 3) := by decide +kernel
theorem d_M_otherwise_100 : decode c_M_otherwise 100 = .ok (.goto (-24), 3) := by decide +kernel
theorem d_M_otherwise_103 : decode c_M_otherwise 103 = .ok (.iload_n 3, 1) := by decide +kernel
theorem d_M_otherwise_104 : decode c_M_otherwise 104 = .ok (.aload_n 0, 1) := by decide +kernel
theorem d_M_otherwise_105 : decode c_M_otherwise 105 = .ok (.getfield 16, 3) := by decide +kernel
theorem d_M_otherwise_108 : decode c_M_otherwise 108 = .ok (.iload_n 2, 1) := by decide +kernel
theorem d_M_otherwise_109 : decode c_M_otherwise 109 = .ok (.iaload, 1) := by decide +kernel
theorem d_M_otherwise_110 : decode c_M_otherwise 110 = .ok (.iand, 1) := by decide +kernel
theorem d_M_otherwise_111 : decode c_M_otherwise 111 = .ok (.ifCond .eq 7, 3) := by decide +kernel
theorem d_M_otherwise_114 : decode c_M_otherwise 114 = .ok (.iconst 1, 1) := by decide +kernel
theorem d_M_otherwise_115 : decode c_M_otherwise 115 = .ok (.goto 4, 3) := by decide +kernel
theorem d_M_otherwise_118 : decode c_M_otherwise 118 = .ok (.iconst 0, 1) := by decide +kernel
theorem d_M_otherwise_119 : decode c_M_otherwise 119 = .ok (.ireturn, 1) := by decide +kernel
theorem d_M_longest_0 : decode c_M_longest 0 = .ok (.iconst 0, 1) := by decide +kernel
theorem d_M_longest_1 : decode c_M_longest 1 = .ok (.istore_n 1, 1) := by decide +kernel
theorem d_M_longest_2 : decode c_M_longest 2 = .ok (.iconst 0, 1) := by decide +kernel
theorem d_M_longest_3 : decode c_M_longest 3 = .ok (.istore_n 2, 1) := by decide +kernel
theorem d_M_longest_4 : decode c_M_longest 4 = .ok (.iload_n 2, 1) := by decide +kernel
theorem d_M_longest_5 : decode c_M_longest 5 = .ok (.aload_n 0, 1) := by decide +kernel
theorem d_M_longest_6 : decode c_M_longest 6 = .ok (.getfield 58, 3) := by decide +kernel
theorem d_M_longest_9 : decode c_M_longest 9 = .ok (.if_icmp .ge 107, 3) := by decide +kernel
theorem d_M_longest_12 : decode c_M_longest 12 = .ok (.aload_n 0, 1) := by decide +kernel
theorem d_M_longest_13 : decode c_M_longest 13 = .ok (.getfield 28, 3) := by decide +kernel
theorem d_M_longest_16 : decode c_M_longest 16 = .ok (.iload_n 2, 1) := by decide +kernel
theorem d_M_longest_17 : decode c_M_longest 17 = .ok (.iconst 1, 1) := by decide +kernel
theorem d_M_longest_18 : decode c_M_longest 18 = .ok (.iastore, 1) := by decide +kernel
theorem d_M_longest_19 : decode c_M_longest 19 = .ok (.iconst 0, 1) := by decide +kernel
theorem d_M_longest_20 : decode c_M_longest 20 = .ok (.istore_n 3, 1) := by decide +kernel
theorem d_M_longest_21 : decode c_M_longest 21 = .ok (.iload_n 3, 1) := by decide +kernel
theorem d_M_longest_22 : decode c_M_longest 22 = .ok (.iload_n 2, 1) := by decide +kernel
theorem d_M_longest_23 : decode c_M_longest 23 = .ok (.if_icmp .ge 66, 3) := by decide +kernel
theorem d_M_longest_26 : decode c_M_longest 26 = .ok (.aload_n 0, 1) := by decide +kernel
theorem d_M_longest_27 : decode c_M_longest 27 = .ok (.getfield 28, 3) := by decide +kernel
theorem d_M_longest_30 : decode c_M_longest 30 = .ok (.iload_n 2, 1) := by decide +kernel
theorem d_M_longest_31 : decode c_M_longest 31 = .ok (.aload_n 0, 1) := by decide +kernel
theorem d_M_longest_32 : decode c_M_longest 32 = .ok (.aload_n 0, 1) := by decide +kernel
theorem d_M_longest_33 : decode c_M_longest 33 = .ok (.getfield 13, 3) := by decide +kernel
theorem d_M_longest_36 : decode c_M_longest 36 = .ok (.iload_n 3, 1) := by decide +kernel
theorem d_M_longest_37 : decode c_M_longest 37 = .ok (.iaload, 1) := by decide +kernel
theorem d_M_longest_38 : decode c_M_longest 38 = .ok (.aload_n 0, 1) := by decide +kernel
theorem d_M_longest_39 : decode c_M_longest 39 = .ok (.getfield 13, 3) := by decide +kernel
theorem d_M_longest_42 : decode c_M_longest 42 = .ok (.iload_n 2, 1) := by decide +kernel
theorem d_M_longest_43 : decode c_M_longest 43 = .ok (.iaload, 1) := by decide +kernel
theorem d_M_longest_44 : decode c_M_longest 44 = .ok (.invokevirtual 93, 3) := by decide +kernel
theorem d_M_longest_47 : decode c_M_longest 47 = .ok (.ifCond .eq 29, 3) := by decide +kernel
theorem d_M_longest_50 : decode c_M_longest 50 = .ok (.aload_n 0, 1) := by decide +kernel
theorem d_M_longest_51 : decode c_M_longest 51 = .ok (.getfield 28, 3) := by decide +kernel
theorem d_M_longest_54 : decode c_M_longest 54 = .ok (.iload_n 3, 1) := by decide +kernel
theorem d_M_longest_55 : decode c_M_longest 55 = .ok (.iaload, 1) := by decide +kernel
theorem d_M_longest_56 : decode c_M_longest 56 = .ok (.aload_n 0, 1) := by decide +kernel
theorem d_M_longest_57 : decode c_M_longest 57 = .ok (.getfield 28, 3) := by decide +kernel
theorem d_M_longest_60 : decode c_M_longest 60 = .ok (.iload_n 2, 1) := by decide +kernel
theorem d_M_longest_61 : decode c_M_longest 61 = .ok (.iaload, 1) := by decide +kernel
theorem d_M_longest_62 : decode c_M_longest 62 = .ok (.if_icmp .lt 14, 3) := by decide +kernel
theorem d_M_longest_65 : decode c_M_longest 65 = .ok (.aload_n 0, 1) := by decide +kernel
theorem d_M_longest_66 : decode c_M_longest 66 = .ok (.getfield 28, 3) := by decide +kernel
theorem d_M_longest_69 : decode c_M_longest 69 = .ok (.iload_n 3, 1) := by decide +kernel
theorem d_M_longest_70 : decode c_M_longest 70 = .ok (.iaload, 1) := by decide +kernel
theorem d_M_longest_71 : decode c_M_longest 71 = .ok (.iconst 1, 1) := by decide +kernel
theorem d_M_longest_72 : decode c_M_longest 72 = .ok (.iadd, 1) := by decide +kernel
theorem d_M_longest_73 : decode c_M_longest 73 = .ok (.goto 9, 3) := by decide +kernel
theorem d_M_longest_76 : decode c_M_longest 76 = .ok (.aload_n 0, 1) := by decide +kernel
theorem d_M_longest_77 : decode c_M_longest 77 = .ok (.getfield 28, 3) := by decide +kernel
theorem d_M_longest_80 : decode c_M_longest 80 = .ok (.iload_n 2, 1) := by decide +kernel
theorem d_M_longest_81 : decode c_M_longest 81 = .ok (.iaload, 1) := by decide +kernel
theorem d_M_longest_82 : decode c_M_longest 82 = .ok (.iastore, 1) := by decide +kernel
theorem d_M_longest_83 : decode c_M_longest 83 = .ok (.iinc 3 1, 3) := by decide +kernel
theorem d_M_longest_86 : decode c_M_longest 86 = .ok (.goto (-65), 3) := by decide +kernel
theorem d_M_longest_89 : decode c_M_longest 89 = .ok (.aload_n 0, 1) := by decide +kernel
theorem d_M_longest_90 : decode c_M_longest 90 = .ok (.getfield 28, 3) := by decide +kernel
theorem d_M_longest_93 : decode c_M_longest 93 = .ok (.iload_n 2, 1) := by decide +kernel
theorem d_M_longest_94 : decode c_M_longest 94 = .ok (.iaload, 1) := by decide +kernel
theorem d_M_longest_95 : decode c_M_longest 95 = .ok (.iload_n 1, 1) := by decide +kernel
theorem d_M_longest_96 : decode c_M_longest 96 = .ok (.if_icmp .le 12, 3) := by decide +kernel
theorem d_M_longest_99 : decode c_M_longest 99 = .ok (.aload_n 0, 1) := by decide +kernel
theorem d_M_longest_100 : decode c_M_longest 100 = .ok (.getfield 28, 3) := by decide +kernel
theorem d_M_longest_103 : decode c_M_longest 103 = .ok (.iload_n 2, 1) := by decide +kernel
theorem d_M_longest_104 : decode c_M_longest 104 = .ok (.iaload, 1) := by decide +kernel
theorem d_M_longest_105 : decode c_M_longest 105 = .ok (.goto 4, 3) := by decide +kernel
theorem d_M_longest_108 : decode c_M_longest 108 = .ok (.iload_n 1, 1) := by decide +kernel
theorem d_M_longest_109 : decode c_M_longest 109 = .ok (.istore_n 1, 1) := by decide +kernel
theorem d_M_longest_110 : decode c_M_longest 110 = .ok (.iinc 2 1, 3) := by decide +kernel
theorem d_M_longest_113 : decode c_M_longest 113 = .ok (.goto (-109), 3) := by decide +kernel
theorem d_M_longest_116 : decode c_M_longest 116 = .ok (.iload_n 1, 1) := by decide +kernel
theorem d_M_longest_117 : decode c_M_longest 117 = .ok (.ireturn, 1) := by decide +kernel
theorem d_M_bridges_0 : decode c_M_bridges 0 = .ok (.iconst 0, 1) := by decide +kernel
theorem d_M_bridges_1 : decode c_M_bridges 1 = .ok (.istore_n 1, 1) := by decide +kernel
theorem d_M_bridges_2 : decode c_M_bridges 2 = .ok (.iconst 0, 1) := by decide +kernel
theorem d_M_bridges_3 : decode c_M_bridges 3 = .ok (.istore_n 2, 1) := by decide +kernel
theorem d_M_bridges_4 : decode c_M_bridges 4 = .ok (.iload_n 2, 1) := by decide +kernel
theorem d_M_bridges_5 : decode c_M_bridges 5 = .ok (.bipush 16, 2) := by decide +kernel
theorem d_M_bridges_7 : decode c_M_bridges 7 = .ok (.if_icmp .ge 82, 3) := by decide +kernel
theorem d_M_bridges_10 : decode c_M_bridges 10 = .ok (.iconst 0, 1) := by decide +kernel
theorem d_M_bridges_11 : decode c_M_bridges 11 = .ok (.istore_n 3, 1) := by decide +kernel
theorem d_M_bridges_12 : decode c_M_bridges 12 = .ok (.iload_n 3, 1) := by decide +kernel
theorem d_M_bridges_13 : decode c_M_bridges 13 = .ok (.bipush 16, 2) := by decide +kernel
theorem d_M_bridges_15 : decode c_M_bridges 15 = .ok (.if_icmp .ge 68, 3) := by decide +kernel
theorem d_M_bridges_18 : decode c_M_bridges 18 = .ok (.aload_n 0, 1) := by decide +kernel
theorem d_M_bridges_19 : decode c_M_bridges 19 = .ok (.getfield 7, 3) := by decide +kernel
theorem d_M_bridges_22 : decode c_M_bridges 22 = .ok (.iload_n 2, 1) := by decide +kernel
theorem d_M_bridges_23 : decode c_M_bridges 23 = .ok (.iaload, 1) := by decide +kernel
theorem d_M_bridges_24 : decode c_M_bridges 24 = .ok (.iload_n 3, 1) := by decide +kernel
theorem d_M_bridges_25 : decode c_M_bridges 25 = .ok (.invokestatic 35, 3) := by decide +kernel
theorem d_M_bridges_28 : decode c_M_bridges 28 = .ok (.ifCond .eq 49, 3) := by decide +kernel
theorem d_M_bridges_31 : decode c_M_bridges 31 = .ok (.aload_n 0, 1) := by decide +kernel
theorem d_M_bridges_32 : decode c_M_bridges 32 = .ok (.getfield 7, 3) := by decide +kernel
theorem d_M_bridges_35 : decode c_M_bridges 35 = .ok (.iload_n 2, 1) := by decide +kernel
theorem d_M_bridges_36 : decode c_M_bridges 36 = .ok (.dup2, 1) := by decide +kernel
theorem d_M_bridges_37 : decode c_M_bridges 37 = .ok (.iaload, 1) := by decide +kernel
theorem d_M_bridges_38 : decode c_M_bridges 38 = .ok (.iconst 1, 1) := by decide +kernel
theorem d_M_bridges_39 : decode c_M_bridges 39 = .ok (.iload_n 3, 1) := by decide +kernel
theorem d_M_bridges_40 : decode c_M_bridges 40 = .ok (.ishl, 1) := by decide +kernel
theorem d_M_bridges_41 : decode c_M_bridges 41 = .ok (.iconst (-1), 1) := by decide +kernel
theorem d_M_bridges_42 : decode c_M_bridges 42 = .ok (.ixor, 1) := by decide +kernel
theorem d_M_bridges_43 : decode c_M_bridges 43 = .ok (.iand, 1) := by decide +kernel
theorem d_M_bridges_44 : decode c_M_bridges 44 = .ok (.iastore, 1) := by decide +kernel
theorem d_M_bridges_45 : decode c_M_bridges 45 = .ok (.iload_n 1, 1) := by decide +kernel
theorem d_M_bridges_46 : decode c_M_bridges 46 = .ok (.aload_n 0, 1) := by decide +kernel
theorem d_M_bridges_47 : decode c_M_bridges 47 = .ok (.iload_n 2, 1) := by decide +kernel
theorem d_M_bridges_48 : decode c_M_bridges 48 = .ok (.invokevirtual 51, 3) := by decide +kernel
theorem d_M_bridges_51 : decode c_M_bridges 51 = .ok (.iload_n 3, 1) := by decide +kernel
theorem d_M_bridges_52 : decode c_M_bridges 52 = .ok (.invokestatic 35, 3) := by decide +kernel
theorem d_M_bridges_55 : decode c_M_bridges 55 = .ok (.ifCond .eq 7, 3) := by decide +kernel
theorem d_M_bridges_58 : decode c_M_bridges 58 = .ok (.iconst 0, 1) := by decide +kernel
theorem d_M_bridges_59 : decode c_M_bridges 59 = .ok (.goto 4, 3) := by decide +kernel
theorem d_M_bridges_62 : decode c_M_bridges 62 = .ok (.iconst 1, 1) := by decide +kernel
theorem d_M_bridges_63 : decode c_M_bridges 63 = .ok (.iadd, 1) := by decide +kernel
theorem d_M_bridges_64 : decode c_M_bridges 64 = .ok (.istore_n 1, 1) := by decide +kernel
theorem d_M_bridges_65 : decode c_M_bridges 65 = .ok (.aload_n 0, 1) := by decide +kernel
theorem d_M_bridges_66 : decode c_M_bridges 66 = .ok (.getfield 7, 3) := by decide +kernel
theorem d_M_bridges_69 : decode c_M_bridges 69 = .ok (.iload_n 2, 1) := by decide +kernel
theorem d_M_bridges_70 : decode c_M_bridges 70 = .ok (.dup2, 1) := by decide +kernel
theorem d_M_bridges_71 : decode c_M_bridges 71 = .ok (.iaload, 1) := by decide +kernel
theorem d_M_bridges_72 : decode c_M_bridges 72 = .ok (.iconst 1, 1) := by decide +kernel
theorem d_M_bridges_73 : decode c_M_bridges 73 = .ok (.iload_n 3, 1) := by decide +kernel
theorem d_M_bridges_74 : decode c_M_bridges 74 = .ok (.ishl, 1) := by decide +kernel
theorem d_M_bridges_75 : decode c_M_bridges 75 = .ok (.ior, 1) := by decide +kernel
theorem d_M_bridges_76 : decode c_M_bridges 76 = .ok (.iastore, 1) := by decide +kernel
theorem d_M_bridges_77 : decode c_M_bridges 77 = .ok (.iinc 3 1, 3) := by decide +kernel
theorem d_M_bridges_80 : decode c_M_bridges 80 = .ok (.goto (-68), 3) := by decide +kernel
theorem d_M_bridges_83 : decode c_M_bridges 83 = .ok (.iinc 2 1, 3) := by decide +kernel
theorem d_M_bridges_86 : decode c_M_bridges 86 = .ok (.goto (-82), 3) := by decide +kernel
theorem d_M_bridges_89 : decode c_M_bridges 89 = .ok (.iload_n 1, 1) := by decide +kernel
theorem d_M_bridges_90 : decode c_M_bridges 90 = .ok (.ireturn, 1) := by decide +kernel
