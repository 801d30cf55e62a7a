theorem d_Gr_init_0 : decode c_Gr_init 0 = .ok (.aload_n 0, 1) := by decide +kernel
theorem d_Gr_init_1 : decode c_Gr_init 1 = .ok (.invokespecial 3, 3) := by decide +kernel
theorem d_Gr_init_4 : decode c_Gr_init 4 = .ok (.aload_n 0, 1) := by decide +kernel
theorem d_Gr_init_5 : decode c_Gr_init 5 = .ok (.bipush 16, 2) := by decide +kernel
theorem d_Gr_init_7 : decode c_Gr_init 7 = .ok (.newarray .int, 2) := by decide +kernel
theorem d_Gr_init_9 : decode c_Gr_init 9 = .ok (.putfield 9, 3) := by decide +kernel
theorem d_Gr_init_12 : decode c_Gr_init 12 = .ok (.aload_n 0, 1) := by decide +kernel
theorem d_Gr_init_13 : decode c_Gr_init 13 = .ok (.bipush 16, 2) := by decide +kernel
theorem d_Gr_init_15 : decode c_Gr_init 15 = .ok (.newarray .int, 2) := by decide +kernel
theorem d_Gr_init_17 : decode c_Gr_init 17 = .ok (.putfield 15, 3) := by decide +kernel
theorem d_Gr_init_20 : decode c_Gr_init 20 = .ok (.aload_n 0, 1) := by decide +kernel
theorem d_Gr_init_21 : decode c_Gr_init 21 = .ok (.bipush 16, 2) := by decide +kernel
theorem d_Gr_init_23 : decode c_Gr_init 23 = .ok (.newarray .int, 2) := by decide +kernel
theorem d_Gr_init_25 : decode c_Gr_init 25 = .ok (.putfield 18, 3) := by decide +kernel
theorem d_Gr_init_28 : decode c_Gr_init 28 = .ok (.aload_n 0, 1) := by decide +kernel
theorem d_Gr_init_29 : decode c_Gr_init 29 = .ok (.bipush 16, 2) := by decide +kernel
theorem d_Gr_init_31 : decode c_Gr_init 31 = .ok (.newarray .int, 2) := by decide +kernel
theorem d_Gr_init_33 : decode c_Gr_init 33 = .ok (.putfield 21, 3) := by decide +kernel
theorem d_Gr_init_36 : decode c_Gr_init 36 = .ok (.aload_n 0, 1) := by decide +kernel
theorem d_Gr_init_37 : decode c_Gr_init 37 = .ok (.bipush 16, 2) := by decide +kernel
theorem d_Gr_init_39 : decode c_Gr_init 39 = .ok (.newarray .int, 2) := by decide +kernel
theorem d_Gr_init_41 : decode c_Gr_init 41 = .ok (.putfield 24, 3) := by decide +kernel
theorem d_Gr_init_44 : decode c_Gr_init 44 = .ok (.aload_n 0, 1) := by decide +kernel
theorem d_Gr_init_45 : decode c_Gr_init 45 = .ok (.bipush 16, 2) := by decide +kernel
theorem d_Gr_init_47 : decode c_Gr_init 47 = .ok (.newarray .int, 2) := by decide +kernel
theorem d_Gr_init_49 : decode c_Gr_init 49 = .ok (.putfield 27, 3) := by decide +kernel
theorem d_Gr_init_52 : decode c_Gr_init 52 = .ok (.aload_n 0, 1) := by decide +kernel
theorem d_Gr_init_53 : decode c_Gr_init 53 = .ok (.iconst 0, 1) := by decide +kernel
theorem d_Gr_init_54 : decode c_Gr_init 54 = .ok (.putfield 30, 3) := by decide +kernel
theorem d_Gr_init_57 : decode c_Gr_init 57 = .ok (.return_, 1) := by decide +kernel
theorem d_Wy_init_0 : decode c_Wy_init 0 = .ok (.aload_n 0, 1) := by decide +kernel
theorem d_Wy_init_1 : decode c_Wy_init 1 = .ok (.invokespecial 3, 3) := by decide +kernel
theorem d_Wy_init_4 : decode c_Wy_init 4 = .ok (.aload_n 0, 1) := by decide +kernel
theorem d_Wy_init_5 : decode c_Wy_init 5 = .ok (.bipush 16, 2) := by decide +kernel
theorem d_Wy_init_7 : decode c_Wy_init 7 = .ok (.newarray .int, 2) := by decide +kernel
theorem d_Wy_init_9 : decode c_Wy_init 9 = .ok (.putfield 9, 3) := by decide +kernel
theorem d_Wy_init_12 : decode c_Wy_init 12 = .ok (.return_, 1) := by decide +kernel
theorem d_Fl_init_0 : decode c_Fl_init 0 = .ok (.aload_n 0, 1) := by decide +kernel
theorem d_Fl_init_1 : decode c_Fl_init 1 = .ok (.invokespecial 3, 3) := by decide +kernel
theorem d_Fl_init_4 : decode c_Fl_init 4 = .ok (.aload_n 0, 1) := by decide +kernel
theorem d_Fl_init_5 : decode c_Fl_init 5 = .ok (.bipush 32, 2) := by decide +kernel
theorem d_Fl_init_7 : decode c_Fl_init 7 = .ok (.newarray .int, 2) := by decide +kernel
theorem d_Fl_init_9 : decode c_Fl_init 9 = .ok (.putfield 11, 3) := by decide +kernel
theorem d_Fl_init_12 : decode c_Fl_init 12 = .ok (.aload_n 0, 1) := by decide +kernel
theorem d_Fl_init_13 : decode c_Fl_init 13 = .ok (.bipush 32, 2) := by decide +kernel
theorem d_Fl_init_15 : decode c_Fl_init 15 = .ok (.newarray .int, 2) := by decide +kernel
theorem d_Fl_init_17 : decode c_Fl_init 17 = .ok (.putfield 15, 3) := by decide +kernel
theorem d_Fl_init_20 : decode c_Fl_init 20 = .ok (.aload_n 0, 1) := by decide +kernel
theorem d_Fl_init_21 : decode c_Fl_init 21 = .ok (.bipush 32, 2) := by decide +kernel
theorem d_Fl_init_23 : decode c_Fl_init 23 = .ok (.newarray .int, 2) := by decide +kernel
theorem d_Fl_init_25 : decode c_Fl_init 25 = .ok (.putfield 18, 3) := by decide +kernel
theorem d_Fl_init_28 : decode c_Fl_init 28 = .ok (.aload_n 0, 1) := by decide +kernel
theorem d_Fl_init_29 : decode c_Fl_init 29 = .ok (.bipush 32, 2) := by decide +kernel
theorem d_Fl_init_31 : decode c_Fl_init 31 = .ok (.newarray .int, 2) := by decide +kernel
theorem d_Fl_init_33 : decode c_Fl_init 33 = .ok (.putfield 21, 3) := by decide +kernel
theorem d_Fl_init_36 : decode c_Fl_init 36 = .ok (.return_, 1) := by decide +kernel
theorem d_Gr_read_0 : decode c_Gr_read 0 = .ok (.aload_n 0, 1) := by decide +kernel
theorem d_Gr_read_1 : decode c_Gr_read 1 = .ok (.aload_n 1, 1) := by decide +kernel
theorem d_Gr_read_2 : decode c_Gr_read 2 = .ok (.invokevirtual 34, 3) := by decide +kernel
theorem d_Gr_read_5 : decode c_Gr_read 5 = .ok (.aload_n 0, 1) := by decide +kernel
theorem d_Gr_read_6 : decode c_Gr_read 6 = .ok (.invokevirtual 38, 3) := by decide +kernel
theorem d_Gr_read_9 : decode c_Gr_read 9 = .ok (.aload_n 0, 1) := by decide +kernel
theorem d_Gr_read_10 : decode c_Gr_read 10 = .ok (.aload_n 1, 1) := by decide +kernel
theorem d_Gr_read_11 : decode c_Gr_read 11 = .ok (.invokevirtual 41, 3) := by decide +kernel
theorem d_Gr_read_14 : decode c_Gr_read 14 = .ok (.aload_n 0, 1) := by decide +kernel
theorem d_Gr_read_15 : decode c_Gr_read 15 = .ok (.invokevirtual 44, 3) := by decide +kernel
theorem d_Gr_read_18 : decode c_Gr_read 18 = .ok (.return_, 1) := by decide +kernel
theorem d_Gr_readReached_0 : decode c_Gr_readReached 0 = .ok (.iconst 0, 1) := by decide +kernel
theorem d_Gr_readReached_1 : decode c_Gr_readReached 1 = .ok (.istore_n 2, 1) := by decide +kernel
theorem d_Gr_readReached_2 : decode c_Gr_readReached 2 = .ok (.iload_n 2, 1) := by decide +kernel
theorem d_Gr_readReached_3 : decode c_Gr_readReached 3 = .ok (.bipush 16, 2) := by decide +kernel
theorem d_Gr_readReached_5 : decode c_Gr_readReached 5 = .ok (.if_icmp .ge 25, 3) := by decide +kernel
theorem d_Gr_readReached_8 : decode c_Gr_readReached 8 = .ok (.aload_n 0, 1) := by decide +kernel
theorem d_Gr_readReached_9 : decode c_Gr_readReached 9 = .ok (.getfield 9, 3) := by decide +kernel
theorem d_Gr_readReached_12 : decode c_Gr_readReached 12 = .ok (.iload_n 2, 1) := by decide +kernel
theorem d_Gr_readReached_13 : decode c_Gr_readReached 13 = .ok (.iload_n 2, 1) := by decide +kernel
theorem d_Gr_readReached_14 : decode c_Gr_readReached 14 = .ok (.invokestatic 57, 3) := by decide +kernel
theorem d_Gr_readReached_17 : decode c_Gr_readReached 17 = .ok (.aload_n 1, 1) := by decide +kernel
theorem d_Gr_readReached_18 : decode c_Gr_readReached 18 = .ok (.iload_n 2, 1) := by decide +kernel
theorem d_Gr_readReached_19 : decode c_Gr_readReached 19 = .ok (.invokevirtual 72, 3) := by decide +kernel
theorem d_Gr_readReached_22 : decode c_Gr_readReached 22 = .ok (.ior, 1) := by decide +kernel
theorem d_Gr_readReached_23 : decode c_Gr_readReached 23 = .ok (.iastore, 1) := by decide +kernel
theorem d_Gr_readReached_24 : decode c_Gr_readReached 24 = .ok (.iinc 2 1, 3) := by decide +kernel
theorem d_Gr_readReached_27 : decode c_Gr_readReached 27 = .ok (.goto (-25), 3) := by decide +kernel
theorem d_Gr_readReached_30 : decode c_Gr_readReached 30 = .ok (.iconst 0, 1) := by decide +kernel
theorem d_Gr_readReached_31 : decode c_Gr_readReached 31 = .ok (.istore_n 2, 1) := by decide +kernel
theorem d_Gr_readReached_32 : decode c_Gr_readReached 32 = .ok (.iload_n 2, 1) := by decide +kernel
theorem d_Gr_readReached_33 : decode c_Gr_readReached 33 = .ok (.bipush 16, 2) := by decide +kernel
theorem d_Gr_readReached_35 : decode c_Gr_readReached 35 = .ok (.if_icmp .ge 51, 3) := by decide +kernel
theorem d_Gr_readReached_38 : decode c_Gr_readReached 38 = .ok (.iconst 0, 1) := by decide +kernel
theorem d_Gr_readReached_39 : decode c_Gr_readReached 39 = .ok (.istore_n 3, 1) := by decide +kernel
theorem d_Gr_readReached_40 : decode c_Gr_readReached 40 = .ok (.iload_n 3, 1) := by decide +kernel
theorem d_Gr_readReached_41 : decode c_Gr_readReached 41 = .ok (.bipush 16, 2) := by decide +kernel
theorem d_Gr_readReached_43 : decode c_Gr_readReached 43 = .ok (.if_icmp .ge 37, 3) := by decide +kernel
theorem d_Gr_readReached_46 : decode c_Gr_readReached 46 = .ok (.aload_n 0, 1) := by decide +kernel
theorem d_Gr_readReached_47 : decode c_Gr_readReached 47 = .ok (.getfield 9, 3) := by decide +kernel
theorem d_Gr_readReached_50 : decode c_Gr_readReached 50 = .ok (.iload_n 3, 1) := by decide +kernel
theorem d_Gr_readReached_51 : decode c_Gr_readReached 51 = .ok (.iaload, 1) := by decide +kernel
theorem d_Gr_readReached_52 : decode c_Gr_readReached 52 = .ok (.iload_n 2, 1) := by decide +kernel
theorem d_Gr_readReached_53 : decode c_Gr_readReached 53 = .ok (.invokestatic 53, 3) := by decide +kernel
theorem d_Gr_readReached_56 : decode c_Gr_readReached 56 = .ok (.ifCond .eq 18, 3) := by decide +kernel
theorem d_Gr_readReached_59 : decode c_Gr_readReached 59 = .ok (.aload_n 0, 1) := by decide +kernel
theorem d_Gr_readReached_60 : decode c_Gr_readReached 60 = .ok (.getfield 9, 3) := by decide +kernel
theorem d_Gr_readReached_63 : decode c_Gr_readReached 63 = .ok (.iload_n 3, 1) := by decide +kernel
theorem d_Gr_readReached_64 : decode c_Gr_readReached 64 = .ok (.dup2, 1) := by decide +kernel
theorem d_Gr_readReached_65 : decode c_Gr_readReached 65 = .ok (.iaload, 1) := by decide +kernel
theorem d_Gr_readReached_66 : decode c_Gr_readReached 66 = .ok (.aload_n 0, 1) := by decide +kernel
theorem d_Gr_readReached_67 : decode c_Gr_readReached 67 = .ok (.getfield 9, 3) := by decide +kernel
theorem d_Gr_readReached_70 : decode c_Gr_readReached 70 = .ok (.iload_n 2, 1) := by decide +kernel
theorem d_Gr_readReached_71 : decode c_Gr_readReached 71 = .ok (.iaload, 1) := by decide +kernel
theorem d_Gr_readReached_72 : decode c_Gr_readReached 72 = .ok (.ior, 1) := by decide +kernel
theorem d_Gr_readReached_73 : decode c_Gr_readReached 73 = .ok (.iastore, 1) := by decide +kernel
theorem d_Gr_readReached_74 : decode c_Gr_readReached 74 = .ok (.iinc 3 1, 3) := by decide +kernel
theorem d_Gr_readReached_77 : decode c_Gr_readReached 77 = .ok (.goto (-37), 3) := by decide +kernel
theorem d_Gr_readReached_80 : decode c_Gr_readReached 80 = .ok (.iinc 2 1, 3) := by decide +kernel
theorem d_Gr_readReached_83 : decode c_Gr_readReached 83 = .ok (.goto (-51), 3) := by decide +kernel
theorem d_Gr_readReached_86 : decode c_Gr_readReached 86 = .ok (.return_, 1) := by decide +kernel
theorem d_Gr_readNames_0 : decode c_Gr_readNames 0 = .ok (.aload_n 0, 1) := by decide +kernel
theorem d_Gr_readNames_1 : decode c_Gr_readNames 1 = .ok (.iconst 0, 1) := by decide +kernel
theorem d_Gr_readNames_2 : decode c_Gr_readNames 2 = .ok (.putfield 30, 3) := by decide +kernel
theorem d_Gr_readNames_5 : decode c_Gr_readNames 5 = .ok (.iconst 0, 1) := by decide +kernel
theorem d_Gr_readNames_6 : decode c_Gr_readNames 6 = .ok (.istore_n 1, 1) := by decide +kernel
theorem d_Gr_readNames_7 : decode c_Gr_readNames 7 = .ok (.iload_n 1, 1) := by decide +kernel
theorem d_Gr_readNames_8 : decode c_Gr_readNames 8 = .ok (.bipush 16, 2) := by decide +kernel
theorem d_Gr_readNames_10 : decode c_Gr_readNames 10 = .ok (.if_icmp .ge 40, 3) := by decide +kernel
theorem d_Gr_readNames_13 : decode c_Gr_readNames 13 = .ok (.aload_n 0, 1) := by decide +kernel
theorem d_Gr_readNames_14 : decode c_Gr_readNames 14 = .ok (.getfield 15, 3) := by decide +kernel
theorem d_Gr_readNames_17 : decode c_Gr_readNames 17 = .ok (.iload_n 1, 1) := by decide +kernel
theorem d_Gr_readNames_18 : decode c_Gr_readNames 18 = .ok (.aload_n 0, 1) := by decide +kernel
theorem d_Gr_readNames_19 : decode c_Gr_readNames 19 = .ok (.iload_n 1, 1) := by decide +kernel
theorem d_Gr_readNames_20 : decode c_Gr_readNames 20 = .ok (.invokevirtual 77, 3) := by decide +kernel
theorem d_Gr_readNames_23 : decode c_Gr_readNames 23 = .ok (.iastore, 1) := by decide +kernel
theorem d_Gr_readNames_24 : decode c_Gr_readNames 24 = .ok (.aload_n 0, 1) := by decide +kernel
theorem d_Gr_readNames_25 : decode c_Gr_readNames 25 = .ok (.getfield 15, 3) := by decide +kernel
theorem d_Gr_readNames_28 : decode c_Gr_readNames 28 = .ok (.iload_n 1, 1) := by decide +kernel
theorem d_Gr_readNames_29 : decode c_Gr_readNames 29 = .ok (.iaload, 1) := by decide +kernel
theorem d_Gr_readNames_30 : decode c_Gr_readNames 30 = .ok (.iload_n 1, 1) := by decide +kernel
theorem d_Gr_readNames_31 : decode c_Gr_readNames 31 = .ok (.if_icmp .ne 13, 3) := by decide +kernel
theorem d_Gr_readNames_34 : decode c_Gr_readNames 34 = .ok (.aload_n 0, 1) := by decide +kernel
theorem d_Gr_readNames_35 : decode c_Gr_readNames 35 = .ok (.dup, 1) := by decide +kernel
theorem d_Gr_readNames_36 : decode c_Gr_readNames 36 = .ok (.getfield 30, 3) := by decide +kernel
theorem d_Gr_readNames_39 : decode c_Gr_readNames 39 = .ok (.iconst 1, 1) := by decide +kernel
theorem d_Gr_readNames_40 : decode c_Gr_readNames 40 = .ok (.iadd, 1) := by decide +kernel
theorem d_Gr_readNames_41 : decode c_Gr_readNames 41 = .ok (.putfield 30, 3) := by decide +kernel
theorem d_Gr_readNames_44 : decode c_Gr_readNames 44 = .ok (.iinc 1 1, 3) := by decide +kernel
theorem d_Gr_readNames_47 : decode c_Gr_readNames 47 = .ok (.goto (-40), 3) := by decide +kernel
theorem d_Gr_readNames_50 : decode c_Gr_readNames 50 = .ok (.return_, 1) := by decide +kernel
theorem d_Gr_leastWith_0 : decode c_Gr_leastWith 0 = .ok (.iconst 0, 1) := by decide +kernel
theorem d_Gr_leastWith_1 : decode c_Gr_leastWith 1 = .ok (.istore_n 2, 1) := by decide +kernel
theorem d_Gr_leastWith_2 : decode c_Gr_leastWith 2 = .ok (.iload_n 2, 1) := by decide +kernel
theorem d_Gr_leastWith_3 : decode c_Gr_leastWith 3 = .ok (.iload_n 1, 1) := by decide +kernel
theorem d_Gr_leastWith_4 : decode c_Gr_leastWith 4 = .ok (.if_icmp .ge 37, 3) := by decide +kernel
theorem d_Gr_leastWith_7 : decode c_Gr_leastWith 7 = .ok (.aload_n 0, 1) := by decide +kernel
theorem d_Gr_leastWith_8 : decode c_Gr_leastWith 8 = .ok (.getfield 9, 3) := by decide +kernel
theorem d_Gr_leastWith_11 : decode c_Gr_leastWith 11 = .ok (.iload_n 1, 1) := by decide +kernel
theorem d_Gr_leastWith_12 : decode c_Gr_leastWith 12 = .ok (.iaload, 1) := by decide +kernel
theorem d_Gr_leastWith_13 : decode c_Gr_leastWith 13 = .ok (.iload_n 2, 1) := by decide +kernel
theorem d_Gr_leastWith_14 : decode c_Gr_leastWith 14 = .ok (.invokestatic 53, 3) := by decide +kernel
theorem d_Gr_leastWith_17 : decode c_Gr_leastWith 17 = .ok (.ifCond .eq 18, 3) := by decide +kernel
theorem d_Gr_leastWith_20 : decode c_Gr_leastWith 20 = .ok (.aload_n 0, 1) := by decide +kernel
theorem d_Gr_leastWith_21 : decode c_Gr_leastWith 21 = .ok (.getfield 9, 3) := by decide +kernel
theorem d_Gr_leastWith_24 : decode c_Gr_leastWith 24 = .ok (.iload_n 2, 1) := by decide +kernel
theorem d_Gr_leastWith_25 : decode c_Gr_leastWith 25 = .ok (.iaload, 1) := by decide +kernel
theorem d_Gr_leastWith_26 : decode c_Gr_leastWith 26 = .ok (.iload_n 1, 1) := by decide +kernel
theorem d_Gr_leastWith_27 : decode c_Gr_leastWith 27 = .ok (.invokestatic 53, 3) := by decide +kernel
theorem d_Gr_leastWith_30 : decode c_Gr_leastWith 30 = .ok (.ifCond .eq 5, 3) := by decide +kernel
theorem d_Gr_leastWith_33 : decode c_Gr_leastWith 33 = .ok (.iload_n 2, 1) := by decide +kernel
theorem d_Gr_leastWith_34 : decode c_Gr_leastWith 34 = .ok (.ireturn, 1) := by decide +kernel
theorem d_Gr_leastWith_35 : decode c_Gr_leastWith 35 = .ok (.iinc 2 1, 3) := by decide +kernel
theorem d_Gr_leastWith_38 : decode c_Gr_leastWith 38 = .ok (.goto (-36), 3) := by decide +kernel
theorem d_Gr_leastWith_41 : decode c_Gr_leastWith 41 = .ok (.iload_n 1, 1) := by decide +kernel
theorem d_Gr_leastWith_42 : decode c_Gr_leastWith 42 = .ok (.ireturn, 1) := by decide +kernel
theorem d_Gr_readLeads_0 : decode c_Gr_readLeads 0 = .ok (.aload_n 0, 1) := by decide +kernel
theorem d_Gr_readLeads_1 : decode c_Gr_readLeads 1 = .ok (.getfield 18, 3) := by decide +kernel
theorem d_Gr_readLeads_4 : decode c_Gr_readLeads 4 = .ok (.iconst 0, 1) := by decide +kernel
theorem d_Gr_readLeads_5 : decode c_Gr_readLeads 5 = .ok (.invokestatic 80, 3) := by decide +kernel
theorem d_Gr_readLeads_8 : decode c_Gr_readLeads 8 = .ok (.aload_n 0, 1) := by decide +kernel
theorem d_Gr_readLeads_9 : decode c_Gr_readLeads 9 = .ok (.getfield 21, 3) := by decide +kernel
theorem d_Gr_readLeads_12 : decode c_Gr_readLeads 12 = .ok (.iconst 0, 1) := by decide +kernel
theorem d_Gr_readLeads_13 : decode c_Gr_readLeads 13 = .ok (.invokestatic 80, 3) := by decide +kernel
theorem d_Gr_readLeads_16 : decode c_Gr_readLeads 16 = .ok (.iconst 0, 1) := by decide +kernel
theorem d_Gr_readLeads_17 : decode c_Gr_readLeads 17 = .ok (.istore_n 2, 1) := by decide +kernel
theorem d_Gr_readLeads_18 : decode c_Gr_readLeads 18 = .ok (.iload_n 2, 1) := by decide +kernel
theorem d_Gr_readLeads_19 : decode c_Gr_readLeads 19 = .ok (.bipush 16, 2) := by decide +kernel
theorem d_Gr_readLeads_21 : decode c_Gr_readLeads 21 = .ok (.if_icmp .ge 93, 3) := by decide +kernel
theorem d_Gr_readLeads_24 : decode c_Gr_readLeads 24 = .ok (.iconst 0, 1) := by decide +kernel
theorem d_Gr_readLeads_25 : decode c_Gr_readLeads 25 = .ok (.istore_n 3, 1) := by decide +kernel
theorem d_Gr_readLeads_26 : decode c_Gr_readLeads 26 = .ok (.iload_n 3, 1) := by decide +kernel
theorem d_Gr_readLeads_27 : decode c_Gr_readLeads 27 = .ok (.bipush 16, 2) := by decide +kernel
theorem d_Gr_readLeads_29 : decode c_Gr_readLeads 29 = .ok (.if_icmp .ge 79, 3) := by decide +kernel
theorem d_Gr_readLeads_32 : decode c_Gr_readLeads 32 = .ok (.aload_n 1, 1) := by decide +kernel
theorem d_Gr_readLeads_33 : decode c_Gr_readLeads 33 = .ok (.iload_n 2, 1) := by decide +kernel
theorem d_Gr_readLeads_34 : decode c_Gr_readLeads 34 = .ok (.iload_n 3, 1) := by decide +kernel
theorem d_Gr_readLeads_35 : decode c_Gr_readLeads 35 = .ok (.invokevirtual 86, 3) := by decide +kernel
theorem d_Gr_readLeads_38 : decode c_Gr_readLeads 38 = .ok (.ifCond .eq 64, 3) := by decide +kernel
theorem d_Gr_readLeads_41 : decode c_Gr_readLeads 41 = .ok (.aload_n 0, 1) := by decide +kernel
theorem d_Gr_readLeads_42 : decode c_Gr_readLeads 42 = .ok (.getfield 15, 3) := by decide +kernel
theorem d_Gr_readLeads_45 : decode c_Gr_readLeads 45 = .ok (.iload_n 2, 1) := by decide +kernel
theorem d_Gr_readLeads_46 : decode c_Gr_readLeads 46 = .ok (.iaload, 1) := by decide +kernel
theorem d_Gr_readLeads_47 : decode c_Gr_readLeads 47 = .ok (.aload_n 0, 1) := by decide +kernel
theorem d_Gr_readLeads_48 : decode c_Gr_readLeads 48 = .ok (.getfield 15, 3) := by decide +kernel
theorem d_Gr_readLeads_51 : decode c_Gr_readLeads 51 = .ok (.iload_n 3, 1) := by decide +kernel
theorem d_Gr_readLeads_52 : decode c_Gr_readLeads 52 = .ok (.iaload, 1) := by decide +kernel
theorem d_Gr_readLeads_53 : decode c_Gr_readLeads 53 = .ok (.if_icmp .eq 49, 3) := by decide +kernel
theorem d_Gr_readLeads_56 : decode c_Gr_readLeads 56 = .ok (.aload_n 0, 1) := by decide +kernel
theorem d_Gr_readLeads_57 : decode c_Gr_readLeads 57 = .ok (.getfield 18, 3) := by decide +kernel
theorem d_Gr_readLeads_60 : decode c_Gr_readLeads 60 = .ok (.aload_n 0, 1) := by decide +kernel
theorem d_Gr_readLeads_61 : decode c_Gr_readLeads 61 = .ok (.getfield 15, 3) := by decide +kernel
theorem d_Gr_readLeads_64 : decode c_Gr_readLeads 64 = .ok (.iload_n 2, 1) := by decide +kernel
theorem d_Gr_readLeads_65 : decode c_Gr_readLeads 65 = .ok (.iaload, 1) := by decide +kernel
theorem d_Gr_readLeads_66 : decode c_Gr_readLeads 66 = .ok (.dup2, 1) := by decide +kernel
theorem d_Gr_readLeads_67 : decode c_Gr_readLeads 67 = .ok (.iaload, 1) := by decide +kernel
theorem d_Gr_readLeads_68 : decode c_Gr_readLeads 68 = .ok (.aload_n 0, 1) := by decide +kernel
theorem d_Gr_readLeads_69 : decode c_Gr_readLeads 69 = .ok (.getfield 15, 3) := by decide +kernel
theorem d_Gr_readLeads_72 : decode c_Gr_readLeads 72 = .ok (.iload_n 3, 1) := by decide +kernel
theorem d_Gr_readLeads_73 : decode c_Gr_readLeads 73 = .ok (.iaload, 1) := by decide +kernel
theorem d_Gr_readLeads_74 : decode c_Gr_readLeads 74 = .ok (.invokestatic 57, 3) := by decide +kernel
theorem d_Gr_readLeads_77 : decode c_Gr_readLeads 77 = .ok (.ior, 1) := by decide +kernel
theorem d_Gr_readLeads_78 : decode c_Gr_readLeads 78 = .ok (.iastore, 1) := by decide +kernel
theorem d_Gr_readLeads_79 : decode c_Gr_readLeads 79 = .ok (.aload_n 0, 1) := by decide +kernel
theorem d_Gr_readLeads_80 : decode c_Gr_readLeads 80 = .ok (.getfield 21, 3) := by decide +kernel
theorem d_Gr_readLeads_83 : decode c_Gr_readLeads 83 = .ok (.aload_n 0, 1) := by decide +kernel
theorem d_Gr_readLeads_84 : decode c_Gr_readLeads 84 = .ok (.getfield 15, 3) := by decide +kernel
theorem d_Gr_readLeads_87 : decode c_Gr_readLeads 87 = .ok (.iload_n 3, 1) := by decide +kernel
theorem d_Gr_readLeads_88 : decode c_Gr_readLeads 88 = .ok (.iaload, 1) := by decide +kernel
theorem d_Gr_readLeads_89 : decode c_Gr_readLeads 89 = .ok (.dup2, 1) := by decide +kernel
theorem d_Gr_readLeads_90 : decode c_Gr_readLeads 90 = .ok (.iaload, 1) := by decide +kernel
theorem d_Gr_readLeads_91 : decode c_Gr_readLeads 91 = .ok (.aload_n 0, 1) := by decide +kernel
theorem d_Gr_readLeads_92 : decode c_Gr_readLeads 92 = .ok (.getfield 15, 3) := by decide +kernel
theorem d_Gr_readLeads_95 : decode c_Gr_readLeads 95 = .ok (.iload_n 2, 1) := by decide +kernel
theorem d_Gr_readLeads_96 : decode c_Gr_readLeads 96 = .ok (.iaload, 1) := by decide +kernel
theorem d_Gr_readLeads_97 : decode c_Gr_readLeads 97 = .ok (.invokestatic 57, 3) := by decide +kernel
theorem d_Gr_readLeads_100 : decode c_Gr_readLeads 100 = .ok (.ior, 1) := by decide +kernel
theorem d_Gr_readLeads_101 : decode c_Gr_readLeads 101 = .ok (.iastore, 1) := by decide +kernel
theorem d_Gr_readLeads_102 : decode c_Gr_readLeads 102 = .ok (.iinc 3 1, 3) := by decide +kernel
theorem d_Gr_readLeads_105 : decode c_Gr_readLeads 105 = .ok (.goto (-79), 3) := by decide +kernel
theorem d_Gr_readLeads_108 : decode c_Gr_readLeads 108 = .ok (.iinc 2 1, 3) := by decide +kernel
theorem d_Gr_readLeads_111 : decode c_Gr_readLeads 111 = .ok (.goto (-93), 3) := by decide +kernel
theorem d_Gr_readLeads_114 : decode c_Gr_readLeads 114 = .ok (.return_, 1) := by decide +kernel
theorem d_Gr_readOrder_0 : decode c_Gr_readOrder 0 = .ok (.iconst 0, 1) := by decide +kernel
theorem d_Gr_readOrder_1 : decode c_Gr_readOrder 1 = .ok (.istore_n 1, 1) := by decide +kernel
theorem d_Gr_readOrder_2 : decode c_Gr_readOrder 2 = .ok (.iconst 0, 1) := by decide +kernel
theorem d_Gr_readOrder_3 : decode c_Gr_readOrder 3 = .ok (.istore_n 2, 1) := by decide +kernel
theorem d_Gr_readOrder_4 : decode c_Gr_readOrder 4 = .ok (.iload_n 2, 1) := by decide +kernel
theorem d_Gr_readOrder_5 : decode c_Gr_readOrder 5 = .ok (.aload_n 0, 1) := by decide +kernel
theorem d_Gr_readOrder_6 : decode c_Gr_readOrder 6 = .ok (.getfield 30, 3) := by decide +kernel
theorem d_Gr_readOrder_9 : decode c_Gr_readOrder 9 = .ok (.if_icmp .ge 32, 3) := by decide +kernel
theorem d_Gr_readOrder_12 : decode c_Gr_readOrder 12 = .ok (.aload_n 0, 1) := by decide +kernel
theorem d_Gr_readOrder_13 : decode c_Gr_readOrder 13 = .ok (.getfield 24, 3) := by decide +kernel
theorem d_Gr_readOrder_16 : decode c_Gr_readOrder 16 = .ok (.iload_n 2, 1) := by decide +kernel
theorem d_Gr_readOrder_17 : decode c_Gr_readOrder 17 = .ok (.aload_n 0, 1) := by decide +kernel
theorem d_Gr_readOrder_18 : decode c_Gr_readOrder 18 = .ok (.iload_n 1, 1) := by decide +kernel
theorem d_Gr_readOrder_19 : decode c_Gr_readOrder 19 = .ok (.invokevirtual 89, 3) := by decide +kernel
theorem d_Gr_readOrder_22 : decode c_Gr_readOrder 22 = .ok (.iastore, 1) := by decide +kernel
theorem d_Gr_readOrder_23 : decode c_Gr_readOrder 23 = .ok (.iload_n 1, 1) := by decide +kernel
theorem d_Gr_readOrder_24 : decode c_Gr_readOrder 24 = .ok (.aload_n 0, 1) := by decide +kernel
theorem d_Gr_readOrder_25 : decode c_Gr_readOrder 25 = .ok (.getfield 24, 3) := by decide +kernel
theorem d_Gr_readOrder_28 : decode c_Gr_readOrder 28 = .ok (.iload_n 2, 1) := by decide +kernel
theorem d_Gr_readOrder_29 : decode c_Gr_readOrder 29 = .ok (.iaload, 1) := by decide +kernel
theorem d_Gr_readOrder_30 : decode c_Gr_readOrder 30 = .ok (.invokestatic 57, 3) := by decide +kernel
theorem d_Gr_readOrder_33 : decode c_Gr_readOrder 33 = .ok (.ior, 1) := by decide +kernel
theorem d_Gr_readOrder_34 : decode c_Gr_readOrder 34 = .ok (.istore_n 1, 1) := by decide +kernel
theorem d_Gr_readOrder_35 : decode c_Gr_readOrder 35 = .ok (.iinc 2 1, 3) := by decide +kernel
theorem d_Gr_readOrder_38 : decode c_Gr_readOrder 38 = .ok (.goto (-34), 3) := by decide +kernel
theorem d_Gr_readOrder_41 : decode c_Gr_readOrder 41 = .ok (.return_, 1) := by decide +kernel
theorem d_Gr_leastFree_0 : decode c_Gr_leastFree 0 = .ok (.iconst 0, 1) := by decide +kernel
theorem d_Gr_leastFree_1 : decode c_Gr_leastFree 1 = .ok (.istore_n 2, 1) := by decide +kernel
theorem d_Gr_leastFree_2 : decode c_Gr_leastFree 2 = .ok (.iload_n 2, 1) := by decide +kernel
theorem d_Gr_leastFree_3 : decode c_Gr_leastFree 3 = .ok (.bipush 16, 2) := by decide +kernel
theorem d_Gr_leastFree_5 : decode c_Gr_leastFree 5 = .ok (.if_icmp .ge 42, 3) := by decide +kernel
theorem d_Gr_leastFree_8 : decode c_Gr_leastFree 8 = .ok (.aload_n 0, 1) := by decide +kernel
theorem d_Gr_leastFree_9 : decode c_Gr_leastFree 9 = .ok (.getfield 15, 3) := by decide +kernel
theorem d_Gr_leastFree_12 : decode c_Gr_leastFree 12 = .ok (.iload_n 2, 1) := by decide +kernel
theorem d_Gr_leastFree_13 : decode c_Gr_leastFree 13 = .ok (.iaload, 1) := by decide +kernel
theorem d_Gr_leastFree_14 : decode c_Gr_leastFree 14 = .ok (.iload_n 2, 1) := by decide +kernel
theorem d_Gr_leastFree_15 : decode c_Gr_leastFree 15 = .ok (.if_icmp .ne 26, 3) := by decide +kernel
theorem d_Gr_leastFree_18 : decode c_Gr_leastFree 18 = .ok (.iload_n 1, 1) := by decide +kernel
theorem d_Gr_leastFree_19 : decode c_Gr_leastFree 19 = .ok (.iload_n 2, 1) := by decide +kernel
theorem d_Gr_leastFree_20 : decode c_Gr_leastFree 20 = .ok (.invokestatic 53, 3) := by decide +kernel
theorem d_Gr_leastFree_23 : decode c_Gr_leastFree 23 = .ok (.ifCond .ne 18, 3) := by decide +kernel
theorem d_Gr_leastFree_26 : decode c_Gr_leastFree 26 = .ok (.aload_n 0, 1) := by decide +kernel
theorem d_Gr_leastFree_27 : decode c_Gr_leastFree 27 = .ok (.getfield 21, 3) := by decide +kernel
theorem d_Gr_leastFree_30 : decode c_Gr_leastFree 30 = .ok (.iload_n 2, 1) := by decide +kernel
theorem d_Gr_leastFree_31 : decode c_Gr_leastFree 31 = .ok (.iaload, 1) := by decide +kernel
theorem d_Gr_leastFree_32 : decode c_Gr_leastFree 32 = .ok (.iload_n 1, 1) := by decide +kernel
theorem d_Gr_leastFree_33 : decode c_Gr_leastFree 33 = .ok (.iconst (-1), 1) := by decide +kernel
theorem d_Gr_leastFree_34 : decode c_Gr_leastFree 34 = .ok (.ixor, 1) := by decide +kernel
theorem d_Gr_leastFree_35 : decode c_Gr_leastFree 35 = .ok (.iand, 1) := by decide +kernel
theorem d_Gr_leastFree_36 : decode c_Gr_leastFree 36 = .ok (.ifCond .ne 5, 3) := by decide +kernel
theorem d_Gr_leastFree_39 : decode c_Gr_leastFree 39 = .ok (.iload_n 2, 1) := by decide +kernel
theorem d_Gr_leastFree_40 : decode c_Gr_leastFree 40 = .ok (.ireturn, 1) := by decide +kernel
theorem d_Gr_leastFree_41 : decode c_Gr_leastFree 41 = .ok (.iinc 2 1, 3) := by decide +kernel
theorem d_Gr_leastFree_44 : decode c_Gr_leastFree 44 = .ok (.goto (-42), 3) := by decide +kernel
theorem d_Gr_leastFree_47 : decode c_Gr_leastFree 47 = .ok (.iconst 0, 1) := by decide +kernel
theorem d_Gr_leastFree_48 : decode c_Gr_leastFree 48 = .ok (.ireturn, 1) := by decide +kernel
theorem d_Gr_nameOf_0 : decode c_Gr_nameOf 0 = .ok (.aload_n 0, 1) := by decide +kernel
theorem d_Gr_nameOf_1 : decode c_Gr_nameOf 1 = .ok (.getfield 15, 3) := by decide +kernel
theorem d_Gr_nameOf_4 : decode c_Gr_nameOf 4 = .ok (.iload_n 1, 1) := by decide +kernel
theorem d_Gr_nameOf_5 : decode c_Gr_nameOf 5 = .ok (.iaload, 1) := by decide +kernel
theorem d_Gr_nameOf_6 : decode c_Gr_nameOf 6 = .ok (.ireturn, 1) := by decide +kernel
theorem d_Gr_sizeOf_0 : decode c_Gr_sizeOf 0 = .ok (.iconst 0, 1) := by decide +kernel
theorem d_Gr_sizeOf_1 : decode c_Gr_sizeOf 1 = .ok (.istore_n 2, 1) := by decide +kernel
theorem d_Gr_sizeOf_2 : decode c_Gr_sizeOf 2 = .ok (.iconst 0, 1) := by decide +kernel
theorem d_Gr_sizeOf_3 : decode c_Gr_sizeOf 3 = .ok (.istore_n 3, 1) := by decide +kernel
theorem d_Gr_sizeOf_4 : decode c_Gr_sizeOf 4 = .ok (.iload_n 3, 1) := by decide +kernel
theorem d_Gr_sizeOf_5 : decode c_Gr_sizeOf 5 = .ok (.bipush 16, 2) := by decide +kernel
theorem d_Gr_sizeOf_7 : decode c_Gr_sizeOf 7 = .ok (.if_icmp .ge 27, 3) := by decide +kernel
theorem d_Gr_sizeOf_10 : decode c_Gr_sizeOf 10 = .ok (.aload_n 0, 1) := by decide +kernel
theorem d_Gr_sizeOf_11 : decode c_Gr_sizeOf 11 = .ok (.getfield 15, 3) := by decide +kernel
theorem d_Gr_sizeOf_14 : decode c_Gr_sizeOf 14 = .ok (.iload_n 3, 1) := by decide +kernel
theorem d_Gr_sizeOf_15 : decode c_Gr_sizeOf 15 = .ok (.iaload, 1) := by decide +kernel
theorem d_Gr_sizeOf_16 : decode c_Gr_sizeOf 16 = .ok (.aload_n 0, 1) := by decide +kernel
theorem d_Gr_sizeOf_17 : decode c_Gr_sizeOf 17 = .ok (.getfield 15, 3) := by decide +kernel
theorem d_Gr_sizeOf_20 : decode c_Gr_sizeOf 20 = .ok (.iload_n 1, 1) := by decide +kernel
theorem d_Gr_sizeOf_21 : decode c_Gr_sizeOf 21 = .ok (.iaload, 1) := by decide +kernel
theorem d_Gr_sizeOf_22 : decode c_Gr_sizeOf 22 = .ok (.if_icmp .ne 6, 3) := by decide +kernel
theorem d_Gr_sizeOf_25 : decode c_Gr_sizeOf 25 = .ok (.iinc 2 1, 3) := by decide +kernel
theorem d_Gr_sizeOf_28 : decode c_Gr_sizeOf 28 = .ok (.iinc 3 1, 3) := by decide +kernel
theorem d_Gr_sizeOf_31 : decode c_Gr_sizeOf 31 = .ok (.goto (-27), 3) := by decide +kernel
theorem d_Gr_sizeOf_34 : decode c_Gr_sizeOf 34 = .ok (.iload_n 2, 1) := by decide +kernel
theorem d_Gr_sizeOf_35 : decode c_Gr_sizeOf 35 = .ok (.ireturn, 1) := by decide +kernel
theorem d_Gr_positionOf_0 : decode c_Gr_positionOf 0 = .ok (.iconst 0, 1) := by decide +kernel
theorem d_Gr_positionOf_1 : decode c_Gr_positionOf 1 = .ok (.istore_n 2, 1) := by decide +kernel
theorem d_Gr_positionOf_2 : decode c_Gr_positionOf 2 = .ok (.iconst 0, 1) := by decide +kernel
theorem d_Gr_positionOf_3 : decode c_Gr_positionOf 3 = .ok (.istore_n 3, 1) := by decide +kernel
theorem d_Gr_positionOf_4 : decode c_Gr_positionOf 4 = .ok (.iload_n 3, 1) := by decide +kernel
theorem d_Gr_positionOf_5 : decode c_Gr_positionOf 5 = .ok (.aload_n 0, 1) := by decide +kernel
theorem d_Gr_positionOf_6 : decode c_Gr_positionOf 6 = .ok (.getfield 30, 3) := by decide +kernel
theorem d_Gr_positionOf_9 : decode c_Gr_positionOf 9 = .ok (.if_icmp .ge 26, 3) := by decide +kernel
theorem d_Gr_positionOf_12 : decode c_Gr_positionOf 12 = .ok (.aload_n 0, 1) := by decide +kernel
theorem d_Gr_positionOf_13 : decode c_Gr_positionOf 13 = .ok (.getfield 24, 3) := by decide +kernel
theorem d_Gr_positionOf_16 : decode c_Gr_positionOf 16 = .ok (.iload_n 3, 1) := by decide +kernel
theorem d_Gr_positionOf_17 : decode c_Gr_positionOf 17 = .ok (.iaload, 1) := by decide +kernel
theorem d_Gr_positionOf_18 : decode c_Gr_positionOf 18 = .ok (.aload_n 0, 1) := by decide +kernel
theorem d_Gr_positionOf_19 : decode c_Gr_positionOf 19 = .ok (.getfield 15, 3) := by decide +kernel
theorem d_Gr_positionOf_22 : decode c_Gr_positionOf 22 = .ok (.iload_n 1, 1) := by decide +kernel
theorem d_Gr_positionOf_23 : decode c_Gr_positionOf 23 = .ok (.iaload, 1) := by decide +kernel
theorem d_Gr_positionOf_24 : decode c_Gr_positionOf 24 = .ok (.if_icmp .ne 5, 3) := by decide +kernel
theorem d_Gr_positionOf_27 : decode c_Gr_positionOf 27 = .ok (.iload_n 3, 1) := by decide +kernel
theorem d_Gr_positionOf_28 : decode c_Gr_positionOf 28 = .ok (.istore_n 2, 1) := by decide +kernel
theorem d_Gr_positionOf_29 : decode c_Gr_positionOf 29 = .ok (.iinc 3 1, 3) := by decide +kernel
theorem d_Gr_positionOf_32 : decode c_Gr_positionOf 32 = .ok (.goto (-28), 3) := by decide +kernel
theorem d_Gr_positionOf_35 : decode c_Gr_positionOf 35 = .ok (.iload_n 2, 1) := by decide +kernel
theorem d_Gr_positionOf_36 : decode c_Gr_positionOf 36 = .ok (.ireturn, 1) := by decide +kernel
theorem d_Gr_count_0 : decode c_Gr_count 0 = .ok (.aload_n 0, 1) := by decide +kernel
theorem d_Gr_count_1 : decode c_Gr_count 1 = .ok (.getfield 30, 3) := by decide +kernel
theorem d_Gr_count_4 : decode c_Gr_count 4 = .ok (.ireturn, 1) := by decide +kernel
theorem d_Gr_nameAt_0 : decode c_Gr_nameAt 0 = .ok (.aload_n 0, 1) := by decide +kernel
theorem d_Gr_nameAt_1 : decode c_Gr_nameAt 1 = .ok (.getfield 24, 3) := by decide +kernel
theorem d_Gr_nameAt_4 : decode c_Gr_nameAt 4 = .ok (.iload_n 1, 1) := by decide +kernel
theorem d_Gr_nameAt_5 : decode c_Gr_nameAt 5 = .ok (.iaload, 1) := by decide +kernel
theorem d_Gr_nameAt_6 : decode c_Gr_nameAt 6 = .ok (.ireturn, 1) := by decide +kernel
theorem d_Wy_readTo_0 : decode c_Wy_readTo 0 = .ok (.aload_n 0, 1) := by decide +kernel
theorem d_Wy_readTo_1 : decode c_Wy_readTo 1 = .ok (.getfield 9, 3) := by decide +kernel
theorem d_Wy_readTo_4 : decode c_Wy_readTo 4 = .ok (.iconst 0, 1) := by decide +kernel
theorem d_Wy_readTo_5 : decode c_Wy_readTo 5 = .ok (.iload_n 1, 1) := by decide +kernel
theorem d_Wy_readTo_6 : decode c_Wy_readTo 6 = .ok (.invokestatic 15, 3) := by decide +kernel
theorem d_Wy_readTo_9 : decode c_Wy_readTo 9 = .ok (.iastore, 1) := by decide +kernel
theorem d_Wy_readTo_10 : decode c_Wy_readTo 10 = .ok (.iconst 1, 1) := by decide +kernel
theorem d_Wy_readTo_11 : decode c_Wy_readTo 11 = .ok (.istore_n 3, 1) := by decide +kernel
theorem d_Wy_readTo_12 : decode c_Wy_readTo 12 = .ok (.iload_n 3, 1) := by decide +kernel
theorem d_Wy_readTo_13 : decode c_Wy_readTo 13 = .ok (.bipush 16, 2) := by decide +kernel
theorem d_Wy_readTo_15 : decode c_Wy_readTo 15 = .ok (.if_icmp .ge 27, 3) := by decide +kernel
theorem d_Wy_readTo_18 : decode c_Wy_readTo 18 = .ok (.aload_n 0, 1) := by decide +kernel
theorem d_Wy_readTo_19 : decode c_Wy_readTo 19 = .ok (.getfield 9, 3) := by decide +kernel
theorem d_Wy_readTo_22 : decode c_Wy_readTo 22 = .ok (.iload_n 3, 1) := by decide +kernel
theorem d_Wy_readTo_23 : decode c_Wy_readTo 23 = .ok (.aload_n 0, 1) := by decide +kernel
theorem d_Wy_readTo_24 : decode c_Wy_readTo 24 = .ok (.getfield 9, 3) := by decide +kernel
theorem d_Wy_readTo_27 : decode c_Wy_readTo 27 = .ok (.iload_n 3, 1) := by decide +kernel
theorem d_Wy_readTo_28 : decode c_Wy_readTo 28 = .ok (.iconst 1, 1) := by decide +kernel
theorem d_Wy_readTo_29 : decode c_Wy_readTo 29 = .ok (.isub, 1) := by decide +kernel
theorem d_Wy_readTo_30 : decode c_Wy_readTo 30 = .ok (.iaload, 1) := by decide +kernel
theorem d_Wy_readTo_31 : decode c_Wy_readTo 31 = .ok (.aload_n 2, 1) := by decide +kernel
theorem d_Wy_readTo_32 : decode c_Wy_readTo 32 = .ok (.invokestatic 19, 3) := by decide +kernel
theorem d_Wy_readTo_35 : decode c_Wy_readTo 35 = .ok (.iastore, 1) := by decide +kernel
theorem d_Wy_readTo_36 : decode c_Wy_readTo 36 = .ok (.iinc 3 1, 3) := by decide +kernel
theorem d_Wy_readTo_39 : decode c_Wy_readTo 39 = .ok (.goto (-27), 3) := by decide +kernel
theorem d_Wy_readTo_42 : decode c_Wy_readTo 42 = .ok (.return_, 1) := by decide +kernel
theorem d_Wy_tailsInto_0 : decode c_Wy_tailsInto 0 = .ok (.iconst 0, 1) := by decide +kernel
theorem d_Wy_tailsInto_1 : decode c_Wy_tailsInto 1 = .ok (.istore_n 2, 1) := by decide +kernel
theorem d_Wy_tailsInto_2 : decode c_Wy_tailsInto 2 = .ok (.iconst 0, 1) := by decide +kernel
theorem d_Wy_tailsInto_3 : decode c_Wy_tailsInto 3 = .ok (.istore_n 3, 1) := by decide +kernel
theorem d_Wy_tailsInto_4 : decode c_Wy_tailsInto 4 = .ok (.iload_n 3, 1) := by decide +kernel
theorem d_Wy_tailsInto_5 : decode c_Wy_tailsInto 5 = .ok (.bipush 16, 2) := by decide +kernel
theorem d_Wy_tailsInto_7 : decode c_Wy_tailsInto 7 = .ok (.if_icmp .ge 26, 3) := by decide +kernel
theorem d_Wy_tailsInto_10 : decode c_Wy_tailsInto 10 = .ok (.aload_n 1, 1) := by decide +kernel
theorem d_Wy_tailsInto_11 : decode c_Wy_tailsInto 11 = .ok (.iload_n 3, 1) := by decide +kernel
theorem d_Wy_tailsInto_12 : decode c_Wy_tailsInto 12 = .ok (.invokevirtual 27, 3) := by decide +kernel
theorem d_Wy_tailsInto_15 : decode c_Wy_tailsInto 15 = .ok (.iload_n 0, 1) := by decide +kernel
theorem d_Wy_tailsInto_16 : decode c_Wy_tailsInto 16 = .ok (.iand, 1) := by decide +kernel
theorem d_Wy_tailsInto_17 : decode c_Wy_tailsInto 17 = .ok (.ifCond .eq 10, 3) := by decide +kernel
theorem d_Wy_tailsInto_20 : decode c_Wy_tailsInto 20 = .ok (.iload_n 2, 1) := by decide +kernel
theorem d_Wy_tailsInto_21 : decode c_Wy_tailsInto 21 = .ok (.iload_n 3, 1) := by decide +kernel
theorem d_Wy_tailsInto_22 : decode c_Wy_tailsInto 22 = .ok (.invokestatic 15, 3) := by decide +kernel
theorem d_Wy_tailsInto_25 : decode c_Wy_tailsInto 25 = .ok (.ior, 1) := by decide +kernel
theorem d_Wy_tailsInto_26 : decode c_Wy_tailsInto 26 = .ok (.istore_n 2, 1) := by decide +kernel
theorem d_Wy_tailsInto_27 : decode c_Wy_tailsInto 27 = .ok (.iinc 3 1, 3) := by decide +kernel
theorem d_Wy_tailsInto_30 : decode c_Wy_tailsInto 30 = .ok (.goto (-26), 3) := by decide +kernel
theorem d_Wy_tailsInto_33 : decode c_Wy_tailsInto 33 = .ok (.iload_n 2, 1) := by decide +kernel
theorem d_Wy_tailsInto_34 : decode c_Wy_tailsInto 34 = .ok (.ireturn, 1) := by decide +kernel
theorem d_Wy_lengthFrom_0 : decode c_Wy_lengthFrom 0 = .ok (.iconst 0, 1) := by decide +kernel
theorem d_Wy_lengthFrom_1 : decode c_Wy_lengthFrom 1 = .ok (.istore_n 2, 1) := by decide +kernel
theorem d_Wy_lengthFrom_2 : decode c_Wy_lengthFrom 2 = .ok (.iload_n 2, 1) := by decide +kernel
theorem d_Wy_lengthFrom_3 : decode c_Wy_lengthFrom 3 = .ok (.bipush 16, 2) := by decide +kernel
theorem d_Wy_lengthFrom_5 : decode c_Wy_lengthFrom 5 = .ok (.if_icmp .ge 24, 3) := by decide +kernel
theorem d_Wy_lengthFrom_8 : decode c_Wy_lengthFrom 8 = .ok (.aload_n 0, 1) := by decide +kernel
theorem d_Wy_lengthFrom_9 : decode c_Wy_lengthFrom 9 = .ok (.getfield 9, 3) := by decide +kernel
theorem d_Wy_lengthFrom_12 : decode c_Wy_lengthFrom 12 = .ok (.iload_n 2, 1) := by decide +kernel
theorem d_Wy_lengthFrom_13 : decode c_Wy_lengthFrom 13 = .ok (.iaload, 1) := by decide +kernel
theorem d_Wy_lengthFrom_14 : decode c_Wy_lengthFrom 14 = .ok (.iload_n 1, 1) := by decide +kernel
theorem d_Wy_lengthFrom_15 : decode c_Wy_lengthFrom 15 = .ok (.invokestatic 23, 3) := by decide +kernel
theorem d_Wy_lengthFrom_18 : decode c_Wy_lengthFrom 18 = .ok (.ifCond .eq 5, 3) := by decide +kernel
theorem d_Wy_lengthFrom_21 : decode c_Wy_lengthFrom 21 = .ok (.iload_n 2, 1) := by decide +kernel
theorem d_Wy_lengthFrom_22 : decode c_Wy_lengthFrom 22 = .ok (.ireturn, 1) := by decide +kernel
theorem d_Wy_lengthFrom_23 : decode c_Wy_lengthFrom 23 = .ok (.iinc 2 1, 3) := by decide +kernel
theorem d_Wy_lengthFrom_26 : decode c_Wy_lengthFrom 26 = .ok (.goto (-24), 3) := by decide +kernel
theorem d_Wy_lengthFrom_29 : decode c_Wy_lengthFrom 29 = .ok (.iconst (-1), 1) := by decide +kernel
theorem d_Wy_lengthFrom_30 : decode c_Wy_lengthFrom 30 = .ok (.ireturn, 1) := by decide +kernel
theorem d_Wy_placeOnFirst_0 : decode c_Wy_placeOnFirst 0 = .ok (.iload_n 1, 1) := by decide +kernel
theorem d_Wy_placeOnFirst_1 : decode c_Wy_placeOnFirst 1 = .ok (.istore 5, 2) := by decide +kernel
theorem d_Wy_placeOnFirst_3 : decode c_Wy_placeOnFirst 3 = .ok (.iconst 1, 1) := by decide +kernel
theorem d_Wy_placeOnFirst_4 : decode c_Wy_placeOnFirst 4 = .ok (.istore 6, 2) := by decide +kernel
theorem d_Wy_placeOnFirst_6 : decode c_Wy_placeOnFirst 6 = .ok (.iload 6, 2) := by decide +kernel
theorem d_Wy_placeOnFirst_8 : decode c_Wy_placeOnFirst 8 = .ok (.iload_n 3, 1) := by decide +kernel
theorem d_Wy_placeOnFirst_9 : decode c_Wy_placeOnFirst 9 = .ok (.if_icmp .gt 37, 3) := by decide +kernel
theorem d_Wy_placeOnFirst_12 : decode c_Wy_placeOnFirst 12 = .ok (.iload 6, 2) := by decide +kernel
theorem d_Wy_placeOnFirst_14 : decode c_Wy_placeOnFirst 14 = .ok (.iload_n 2, 1) := by decide +kernel
theorem d_Wy_placeOnFirst_15 : decode c_Wy_placeOnFirst 15 = .ok (.if_icmp .gt 31, 3) := by decide +kernel
theorem d_Wy_placeOnFirst_18 : decode c_Wy_placeOnFirst 18 = .ok (.aload 4, 2) := by decide +kernel
theorem d_Wy_placeOnFirst_20 : decode c_Wy_placeOnFirst 20 = .ok (.iload 5, 2) := by decide +kernel
theorem d_Wy_placeOnFirst_22 : decode c_Wy_placeOnFirst 22 = .ok (.invokevirtual 27, 3) := by decide +kernel
theorem d_Wy_placeOnFirst_25 : decode c_Wy_placeOnFirst 25 = .ok (.aload_n 0, 1) := by decide +kernel
theorem d_Wy_placeOnFirst_26 : decode c_Wy_placeOnFirst 26 = .ok (.getfield 9, 3) := by decide +kernel
theorem d_Wy_placeOnFirst_29 : decode c_Wy_placeOnFirst 29 = .ok (.iload_n 2, 1) := by decide +kernel
theorem d_Wy_placeOnFirst_30 : decode c_Wy_placeOnFirst 30 = .ok (.iload 6, 2) := by decide +kernel
theorem d_Wy_placeOnFirst_32 : decode c_Wy_placeOnFirst 32 = .ok (.isub, 1) := by decide +kernel
theorem d_Wy_placeOnFirst_33 : decode c_Wy_placeOnFirst 33 = .ok (.iaload, 1) := by decide +kernel
theorem d_Wy_placeOnFirst_34 : decode c_Wy_placeOnFirst 34 = .ok (.iand, 1) := by decide +kernel
theorem d_Wy_placeOnFirst_35 : decode c_Wy_placeOnFirst 35 = .ok (.invokestatic 32, 3) := by decide +kernel
theorem d_Wy_placeOnFirst_38 : decode c_Wy_placeOnFirst 38 = .ok (.istore 5, 2) := by decide +kernel
theorem d_Wy_placeOnFirst_40 : decode c_Wy_placeOnFirst 40 = .ok (.iinc 6 1, 3) := by decide +kernel
theorem d_Wy_placeOnFirst_43 : decode c_Wy_placeOnFirst 43 = .ok (.goto (-37), 3) := by decide +kernel
theorem d_Wy_placeOnFirst_46 : decode c_Wy_placeOnFirst 46 = .ok (.iload 5, 2) := by decide +kernel
theorem d_Wy_placeOnFirst_48 : decode c_Wy_placeOnFirst 48 = .ok (.ireturn, 1) := by decide +kernel
theorem d_Wy_least_0 : decode c_Wy_least 0 = .ok (.iconst 0, 1) := by decide +kernel
theorem d_Wy_least_1 : decode c_Wy_least 1 = .ok (.istore_n 1, 1) := by decide +kernel
theorem d_Wy_least_2 : decode c_Wy_least 2 = .ok (.iload_n 1, 1) := by decide +kernel
theorem d_Wy_least_3 : decode c_Wy_least 3 = .ok (.bipush 16, 2) := by decide +kernel
theorem d_Wy_least_5 : decode c_Wy_least 5 = .ok (.if_icmp .ge 19, 3) := by decide +kernel
theorem d_Wy_least_8 : decode c_Wy_least 8 = .ok (.iload_n 0, 1) := by decide +kernel
theorem d_Wy_least_9 : decode c_Wy_least 9 = .ok (.iload_n 1, 1) := by decide +kernel
theorem d_Wy_least_10 : decode c_Wy_least 10 = .ok (.invokestatic 23, 3) := by decide +kernel
theorem d_Wy_least_13 : decode c_Wy_least 13 = .ok (.ifCond .eq 5, 3) := by decide +kernel
theorem d_Wy_least_16 : decode c_Wy_least 16 = .ok (.iload_n 1, 1) := by decide +kernel
theorem d_Wy_least_17 : decode c_Wy_least 17 = .ok (.ireturn, 1) := by decide +kernel
theorem d_Wy_least_18 : decode c_Wy_least 18 = .ok (.iinc 1 1, 3) := by decide +kernel
theorem d_Wy_least_21 : decode c_Wy_least 21 = .ok (.goto (-19), 3) := by decide +kernel
theorem d_Wy_least_24 : decode c_Wy_least 24 = .ok (.iconst 0, 1) := by decide +kernel
theorem d_Wy_least_25 : decode c_Wy_least 25 = .ok (.ireturn, 1) := by decide +kernel
theorem d_Fl_readPlaces_0 : decode c_Fl_readPlaces 0 = .ok (.iconst 0, 1) := by decide +kernel
theorem d_Fl_readPlaces_1 : decode c_Fl_readPlaces 1 = .ok (.istore_n 2, 1) := by decide +kernel
theorem d_Fl_readPlaces_2 : decode c_Fl_readPlaces 2 = .ok (.iload_n 2, 1) := by decide +kernel
theorem d_Fl_readPlaces_3 : decode c_Fl_readPlaces 3 = .ok (.bipush 16, 2) := by decide +kernel
theorem d_Fl_readPlaces_5 : decode c_Fl_readPlaces 5 = .ok (.if_icmp .ge 36, 3) := by decide +kernel
theorem d_Fl_readPlaces_8 : decode c_Fl_readPlaces 8 = .ok (.aload_n 0, 1) := by decide +kernel
theorem d_Fl_readPlaces_9 : decode c_Fl_readPlaces 9 = .ok (.getfield 11, 3) := by decide +kernel
theorem d_Fl_readPlaces_12 : decode c_Fl_readPlaces 12 = .ok (.iload_n 2, 1) := by decide +kernel
theorem d_Fl_readPlaces_13 : decode c_Fl_readPlaces 13 = .ok (.iload_n 2, 1) := by decide +kernel
theorem d_Fl_readPlaces_14 : decode c_Fl_readPlaces 14 = .ok (.invokestatic 30, 3) := by decide +kernel
theorem d_Fl_readPlaces_17 : decode c_Fl_readPlaces 17 = .ok (.invokestatic 33, 3) := by decide +kernel
theorem d_Fl_readPlaces_20 : decode c_Fl_readPlaces 20 = .ok (.iastore, 1) := by decide +kernel
theorem d_Fl_readPlaces_21 : decode c_Fl_readPlaces 21 = .ok (.aload_n 0, 1) := by decide +kernel
theorem d_Fl_readPlaces_22 : decode c_Fl_readPlaces 22 = .ok (.getfield 11, 3) := by decide +kernel
theorem d_Fl_readPlaces_25 : decode c_Fl_readPlaces 25 = .ok (.iload_n 2, 1) := by decide +kernel
theorem d_Fl_readPlaces_26 : decode c_Fl_readPlaces 26 = .ok (.invokestatic 30, 3) := by decide +kernel
theorem d_Fl_readPlaces_29 : decode c_Fl_readPlaces 29 = .ok (.aload_n 1, 1) := by decide +kernel
theorem d_Fl_readPlaces_30 : decode c_Fl_readPlaces 30 = .ok (.iload_n 2, 1) := by decide +kernel
theorem d_Fl_readPlaces_31 : decode c_Fl_readPlaces 31 = .ok (.invokevirtual 24, 3) := by decide +kernel
theorem d_Fl_readPlaces_34 : decode c_Fl_readPlaces 34 = .ok (.iastore, 1) := by decide +kernel
theorem d_Fl_readPlaces_35 : decode c_Fl_readPlaces 35 = .ok (.iinc 2 1, 3) := by decide +kernel
theorem d_Fl_readPlaces_38 : decode c_Fl_readPlaces 38 = .ok (.goto (-36), 3) := by decide +kernel
theorem d_Fl_readPlaces_41 : decode c_Fl_readPlaces 41 = .ok (.return_, 1) := by decide +kernel
theorem d_Fl_exitOf_0 : decode c_Fl_exitOf 0 = .ok (.iload_n 0, 1) := by decide +kernel
theorem d_Fl_exitOf_1 : decode c_Fl_exitOf 1 = .ok (.bipush 16, 2) := by decide +kernel
theorem d_Fl_exitOf_3 : decode c_Fl_exitOf 3 = .ok (.iadd, 1) := by decide +kernel
theorem d_Fl_exitOf_4 : decode c_Fl_exitOf 4 = .ok (.ireturn, 1) := by decide +kernel
theorem d_Fl_most_0 : decode c_Fl_most 0 = .ok (.aload_n 0, 1) := by decide +kernel
theorem d_Fl_most_1 : decode c_Fl_most 1 = .ok (.getfield 15, 3) := by decide +kernel
theorem d_Fl_most_4 : decode c_Fl_most 4 = .ok (.iconst 0, 1) := by decide +kernel
theorem d_Fl_most_5 : decode c_Fl_most 5 = .ok (.invokestatic 36, 3) := by decide +kernel
theorem d_Fl_most_8 : decode c_Fl_most 8 = .ok (.aload_n 0, 1) := by decide +kernel
theorem d_Fl_most_9 : decode c_Fl_most 9 = .ok (.getfield 18, 3) := by decide +kernel
theorem d_Fl_most_12 : decode c_Fl_most 12 = .ok (.iconst 0, 1) := by decide +kernel
theorem d_Fl_most_13 : decode c_Fl_most 13 = .ok (.invokestatic 36, 3) := by decide +kernel
theorem d_Fl_most_16 : decode c_Fl_most 16 = .ok (.iconst 0, 1) := by decide +kernel
theorem d_Fl_most_17 : decode c_Fl_most 17 = .ok (.istore_n 3, 1) := by decide +kernel
theorem d_Fl_most_18 : decode c_Fl_most 18 = .ok (.iconst 0, 1) := by decide +kernel
theorem d_Fl_most_19 : decode c_Fl_most 19 = .ok (.istore 4, 2) := by decide +kernel
theorem d_Fl_most_21 : decode c_Fl_most 21 = .ok (.iload 4, 2) := by decide +kernel
theorem d_Fl_most_23 : decode c_Fl_most 23 = .ok (.bipush 16, 2) := by decide +kernel
theorem d_Fl_most_25 : decode c_Fl_most 25 = .ok (.if_icmp .ge 30, 3) := by decide +kernel
theorem d_Fl_most_28 : decode c_Fl_most 28 = .ok (.aload_n 0, 1) := by decide +kernel
theorem d_Fl_most_29 : decode c_Fl_most 29 = .ok (.iload_n 1, 1) := by decide +kernel
theorem d_Fl_most_30 : decode c_Fl_most 30 = .ok (.iload_n 2, 1) := by decide +kernel
theorem d_Fl_most_31 : decode c_Fl_most 31 = .ok (.invokevirtual 42, 3) := by decide +kernel
theorem d_Fl_most_34 : decode c_Fl_most 34 = .ok (.ifCond .ne 6, 3) := by decide +kernel
theorem d_Fl_most_37 : decode c_Fl_most 37 = .ok (.goto 18, 3) := by decide +kernel
theorem d_Fl_most_40 : decode c_Fl_most 40 = .ok (.aload_n 0, 1) := by decide +kernel
theorem d_Fl_most_41 : decode c_Fl_most 41 = .ok (.iload_n 1, 1) := by decide +kernel
theorem d_Fl_most_42 : decode c_Fl_most 42 = .ok (.iload_n 2, 1) := by decide +kernel
theorem d_Fl_most_43 : decode c_Fl_most 43 = .ok (.invokevirtual 46, 3) := by decide +kernel
theorem d_Fl_most_46 : decode c_Fl_most 46 = .ok (.iinc 3 1, 3) := by decide +kernel
theorem d_Fl_most_49 : decode c_Fl_most 49 = .ok (.iinc 4 1, 3) := by decide +kernel
theorem d_Fl_most_52 : decode c_Fl_most 52 = .ok (.goto (-31), 3) := by decide +kernel
theorem d_Fl_most_55 : decode c_Fl_most 55 = .ok (.iload_n 3, 1) := by decide +kernel
theorem d_Fl_most_56 : decode c_Fl_most 56 = .ok (.ireturn, 1) := by decide +kernel
theorem d_Fl_findMore_0 : decode c_Fl_findMore 0 = .ok (.iload_n 1, 1) := by decide +kernel
theorem d_Fl_findMore_1 : decode c_Fl_findMore 1 = .ok (.invokestatic 33, 3) := by decide +kernel
theorem d_Fl_findMore_4 : decode c_Fl_findMore 4 = .ok (.istore_n 3, 1) := by decide +kernel
theorem d_Fl_findMore_5 : decode c_Fl_findMore 5 = .ok (.iload_n 3, 1) := by decide +kernel
theorem d_Fl_findMore_6 : decode c_Fl_findMore 6 = .ok (.istore 4, 2) := by decide +kernel
theorem d_Fl_findMore_8 : decode c_Fl_findMore 8 = .ok (.iconst 0, 1) := by decide +kernel
theorem d_Fl_findMore_9 : decode c_Fl_findMore 9 = .ok (.istore 5, 2) := by decide +kernel
theorem d_Fl_findMore_11 : decode c_Fl_findMore 11 = .ok (.iload 5, 2) := by decide +kernel
theorem d_Fl_findMore_13 : decode c_Fl_findMore 13 = .ok (.bipush 32, 2) := by decide +kernel
theorem d_Fl_findMore_15 : decode c_Fl_findMore 15 = .ok (.if_icmp .ge 106, 3) := by decide +kernel
theorem d_Fl_findMore_18 : decode c_Fl_findMore 18 = .ok (.iload 4, 2) := by decide +kernel
theorem d_Fl_findMore_20 : decode c_Fl_findMore 20 = .ok (.ifCond .eq 101, 3) := by decide +kernel
theorem d_Fl_findMore_23 : decode c_Fl_findMore 23 = .ok (.iload_n 3, 1) := by decide +kernel
theorem d_Fl_findMore_24 : decode c_Fl_findMore 24 = .ok (.iload_n 2, 1) := by decide +kernel
theorem d_Fl_findMore_25 : decode c_Fl_findMore 25 = .ok (.invokestatic 50, 3) := by decide +kernel
theorem d_Fl_findMore_28 : decode c_Fl_findMore 28 = .ok (.ifCond .ne 93, 3) := by decide +kernel
theorem d_Fl_findMore_31 : decode c_Fl_findMore 31 = .ok (.iload 4, 2) := by decide +kernel
theorem d_Fl_findMore_33 : decode c_Fl_findMore 33 = .ok (.istore 6, 2) := by decide +kernel
theorem d_Fl_findMore_35 : decode c_Fl_findMore 35 = .ok (.iconst 0, 1) := by decide +kernel
theorem d_Fl_findMore_36 : decode c_Fl_findMore 36 = .ok (.istore 4, 2) := by decide +kernel
theorem d_Fl_findMore_38 : decode c_Fl_findMore 38 = .ok (.iconst 0, 1) := by decide +kernel
theorem d_Fl_findMore_39 : decode c_Fl_findMore 39 = .ok (.istore 7, 2) := by decide +kernel
theorem d_Fl_findMore_41 : decode c_Fl_findMore 41 = .ok (.iload 7, 2) := by decide +kernel
theorem d_Fl_findMore_43 : decode c_Fl_findMore 43 = .ok (.bipush 32, 2) := by decide +kernel
theorem d_Fl_findMore_45 : decode c_Fl_findMore 45 = .ok (.if_icmp .ge 70, 3) := by decide +kernel
theorem d_Fl_findMore_48 : decode c_Fl_findMore 48 = .ok (.iload 6, 2) := by decide +kernel
theorem d_Fl_findMore_50 : decode c_Fl_findMore 50 = .ok (.iload 7, 2) := by decide +kernel
theorem d_Fl_findMore_52 : decode c_Fl_findMore 52 = .ok (.invokestatic 50, 3) := by decide +kernel
theorem d_Fl_findMore_55 : decode c_Fl_findMore 55 = .ok (.ifCond .eq 54, 3) := by decide +kernel
theorem d_Fl_findMore_58 : decode c_Fl_findMore 58 = .ok (.aload_n 0, 1) := by decide +kernel
theorem d_Fl_findMore_59 : decode c_Fl_findMore 59 = .ok (.getfield 11, 3) := by decide +kernel
theorem d_Fl_findMore_62 : decode c_Fl_findMore 62 = .ok (.iload 7, 2) := by decide +kernel
theorem d_Fl_findMore_64 : decode c_Fl_findMore 64 = .ok (.iaload, 1) := by decide +kernel
theorem d_Fl_findMore_65 : decode c_Fl_findMore 65 = .ok (.aload_n 0, 1) := by decide +kernel
theorem d_Fl_findMore_66 : decode c_Fl_findMore 66 = .ok (.getfield 15, 3) := by decide +kernel
theorem d_Fl_findMore_69 : decode c_Fl_findMore 69 = .ok (.iload 7, 2) := by decide +kernel
theorem d_Fl_findMore_71 : decode c_Fl_findMore 71 = .ok (.iaload, 1) := by decide +kernel
theorem d_Fl_findMore_72 : decode c_Fl_findMore 72 = .ok (.iconst (-1), 1) := by decide +kernel
theorem d_Fl_findMore_73 : decode c_Fl_findMore 73 = .ok (.ixor, 1) := by decide +kernel
theorem d_Fl_findMore_74 : decode c_Fl_findMore 74 = .ok (.iand, 1) := by decide +kernel
theorem d_Fl_findMore_75 : decode c_Fl_findMore 75 = .ok (.aload_n 0, 1) := by decide +kernel
theorem d_Fl_findMore_76 : decode c_Fl_findMore 76 = .ok (.getfield 18, 3) := by decide +kernel
theorem d_Fl_findMore_79 : decode c_Fl_findMore 79 = .ok (.iload 7, 2) := by decide +kernel
theorem d_Fl_findMore_81 : decode c_Fl_findMore 81 = .ok (.iaload, 1) := by decide +kernel
theorem d_Fl_findMore_82 : decode c_Fl_findMore 82 = .ok (.ior, 1) := by decide +kernel
theorem d_Fl_findMore_83 : decode c_Fl_findMore 83 = .ok (.iload_n 3, 1) := by decide +kernel
theorem d_Fl_findMore_84 : decode c_Fl_findMore 84 = .ok (.iconst (-1), 1) := by decide +kernel
theorem d_Fl_findMore_85 : decode c_Fl_findMore 85 = .ok (.ixor, 1) := by decide +kernel
theorem d_Fl_findMore_86 : decode c_Fl_findMore 86 = .ok (.iand, 1) := by decide +kernel
theorem d_Fl_findMore_87 : decode c_Fl_findMore 87 = .ok (.istore 8, 2) := by decide +kernel
theorem d_Fl_findMore_89 : decode c_Fl_findMore 89 = .ok (.iload_n 3, 1) := by decide +kernel
theorem d_Fl_findMore_90 : decode c_Fl_findMore 90 = .ok (.iload 8, 2) := by decide +kernel
theorem d_Fl_findMore_92 : decode c_Fl_findMore 92 = .ok (.ior, 1) := by decide +kernel
theorem d_Fl_findMore_93 : decode c_Fl_findMore 93 = .ok (.istore_n 3, 1) := by decide +kernel
theorem d_Fl_findMore_94 : decode c_Fl_findMore 94 = .ok (.iload 4, 2) := by decide +kernel
theorem d_Fl_findMore_96 : decode c_Fl_findMore 96 = .ok (.iload 8, 2) := by decide +kernel
theorem d_Fl_findMore_98 : decode c_Fl_findMore 98 = .ok (.ior, 1) := by decide +kernel
theorem d_Fl_findMore_99 : decode c_Fl_findMore 99 = .ok (.istore 4, 2) := by decide +kernel
theorem d_Fl_findMore_101 : decode c_Fl_findMore 101 = .ok (.aload_n 0, 1) := by decide +kernel
theorem d_Fl_findMore_102 : decode c_Fl_findMore 102 = .ok (.iload 7, 2) := by decide +kernel
theorem d_Fl_findMore_104 : decode c_Fl_findMore 104 = .ok (.iload 8, 2) := by decide +kernel
theorem d_Fl_findMore_106 : decode c_Fl_findMore 106 = .ok (.invokevirtual 53, 3) := by decide +kernel
theorem d_Fl_findMore_109 : decode c_Fl_findMore 109 = .ok (.iinc 7 1, 3) := by decide +kernel
theorem d_Fl_findMore_112 : decode c_Fl_findMore 112 = .ok (.goto (-71), 3) := by decide +kernel
theorem d_Fl_findMore_115 : decode c_Fl_findMore 115 = .ok (.iinc 5 1, 3) := by decide +kernel
theorem d_Fl_findMore_118 : decode c_Fl_findMore 118 = .ok (.goto (-107), 3) := by decide +kernel
theorem d_Fl_findMore_121 : decode c_Fl_findMore 121 = .ok (.iload_n 3, 1) := by decide +kernel
theorem d_Fl_findMore_122 : decode c_Fl_findMore 122 = .ok (.iload_n 2, 1) := by decide +kernel
theorem d_Fl_findMore_123 : decode c_Fl_findMore 123 = .ok (.invokestatic 50, 3) := by decide +kernel
theorem d_Fl_findMore_126 : decode c_Fl_findMore 126 = .ok (.ireturn, 1) := by decide +kernel
theorem d_Fl_markFrom_0 : decode c_Fl_markFrom 0 = .ok (.iconst 0, 1) := by decide +kernel
theorem d_Fl_markFrom_1 : decode c_Fl_markFrom 1 = .ok (.istore_n 3, 1) := by decide +kernel
theorem d_Fl_markFrom_2 : decode c_Fl_markFrom 2 = .ok (.iload_n 3, 1) := by decide +kernel
theorem d_Fl_markFrom_3 : decode c_Fl_markFrom 3 = .ok (.bipush 32, 2) := by decide +kernel
theorem d_Fl_markFrom_5 : decode c_Fl_markFrom 5 = .ok (.if_icmp .ge 24, 3) := by decide +kernel
theorem d_Fl_markFrom_8 : decode c_Fl_markFrom 8 = .ok (.iload_n 2, 1) := by decide +kernel
theorem d_Fl_markFrom_9 : decode c_Fl_markFrom 9 = .ok (.iload_n 3, 1) := by decide +kernel
theorem d_Fl_markFrom_10 : decode c_Fl_markFrom 10 = .ok (.invokestatic 50, 3) := by decide +kernel
theorem d_Fl_markFrom_13 : decode c_Fl_markFrom 13 = .ok (.ifCond .eq 10, 3) := by decide +kernel
theorem d_Fl_markFrom_16 : decode c_Fl_markFrom 16 = .ok (.aload_n 0, 1) := by decide +kernel
theorem d_Fl_markFrom_17 : decode c_Fl_markFrom 17 = .ok (.getfield 21, 3) := by decide +kernel
theorem d_Fl_markFrom_20 : decode c_Fl_markFrom 20 = .ok (.iload_n 3, 1) := by decide +kernel
theorem d_Fl_markFrom_21 : decode c_Fl_markFrom 21 = .ok (.iload_n 1, 1) := by decide +kernel
theorem d_Fl_markFrom_22 : decode c_Fl_markFrom 22 = .ok (.iastore, 1) := by decide +kernel
theorem d_Fl_markFrom_23 : decode c_Fl_markFrom 23 = .ok (.iinc 3 1, 3) := by decide +kernel
theorem d_Fl_markFrom_26 : decode c_Fl_markFrom 26 = .ok (.goto (-24), 3) := by decide +kernel
theorem d_Fl_markFrom_29 : decode c_Fl_markFrom 29 = .ok (.return_, 1) := by decide +kernel
theorem d_Fl_pushOne_0 : decode c_Fl_pushOne 0 = .ok (.iload_n 2, 1) := by decide +kernel
theorem d_Fl_pushOne_1 : decode c_Fl_pushOne 1 = .ok (.istore_n 3, 1) := by decide +kernel
theorem d_Fl_pushOne_2 : decode c_Fl_pushOne 2 = .ok (.iconst 0, 1) := by decide +kernel
theorem d_Fl_pushOne_3 : decode c_Fl_pushOne 3 = .ok (.istore 4, 2) := by decide +kernel
theorem d_Fl_pushOne_5 : decode c_Fl_pushOne 5 = .ok (.iload 4, 2) := by decide +kernel
theorem d_Fl_pushOne_7 : decode c_Fl_pushOne 7 = .ok (.bipush 32, 2) := by decide +kernel
theorem d_Fl_pushOne_9 : decode c_Fl_pushOne 9 = .ok (.if_icmp .ge 32, 3) := by decide +kernel
theorem d_Fl_pushOne_12 : decode c_Fl_pushOne 12 = .ok (.iload_n 3, 1) := by decide +kernel
theorem d_Fl_pushOne_13 : decode c_Fl_pushOne 13 = .ok (.iload_n 1, 1) := by decide +kernel
theorem d_Fl_pushOne_14 : decode c_Fl_pushOne 14 = .ok (.if_icmp .eq 27, 3) := by decide +kernel
theorem d_Fl_pushOne_17 : decode c_Fl_pushOne 17 = .ok (.aload_n 0, 1) := by decide +kernel
theorem d_Fl_pushOne_18 : decode c_Fl_pushOne 18 = .ok (.getfield 21, 3) := by decide +kernel
theorem d_Fl_pushOne_21 : decode c_Fl_pushOne 21 = .ok (.iload_n 3, 1) := by decide +kernel
theorem d_Fl_pushOne_22 : decode c_Fl_pushOne 22 = .ok (.iaload, 1) := by decide +kernel
theorem d_Fl_pushOne_23 : decode c_Fl_pushOne 23 = .ok (.istore 5, 2) := by decide +kernel
theorem d_Fl_pushOne_25 : decode c_Fl_pushOne 25 = .ok (.aload_n 0, 1) := by decide +kernel
theorem d_Fl_pushOne_26 : decode c_Fl_pushOne 26 = .ok (.iload 5, 2) := by decide +kernel
theorem d_Fl_pushOne_28 : decode c_Fl_pushOne 28 = .ok (.iload_n 3, 1) := by decide +kernel
theorem d_Fl_pushOne_29 : decode c_Fl_pushOne 29 = .ok (.invokevirtual 56, 3) := by decide +kernel
theorem d_Fl_pushOne_32 : decode c_Fl_pushOne 32 = .ok (.iload 5, 2) := by decide +kernel
theorem d_Fl_pushOne_34 : decode c_Fl_pushOne 34 = .ok (.istore_n 3, 1) := by decide +kernel
theorem d_Fl_pushOne_35 : decode c_Fl_pushOne 35 = .ok (.iinc 4 1, 3) := by decide +kernel
theorem d_Fl_pushOne_38 : decode c_Fl_pushOne 38 = .ok (.goto (-33), 3) := by decide +kernel
theorem d_Fl_pushOne_41 : decode c_Fl_pushOne 41 = .ok (.return_, 1) := by decide +kernel
theorem d_Fl_pushOver_0 : decode c_Fl_pushOver 0 = .ok (.aload_n 0, 1) := by decide +kernel
theorem d_Fl_pushOver_1 : decode c_Fl_pushOver 1 = .ok (.getfield 18, 3) := by decide +kernel
theorem d_Fl_pushOver_4 : decode c_Fl_pushOver 4 = .ok (.iload_n 1, 1) := by decide +kernel
theorem d_Fl_pushOver_5 : decode c_Fl_pushOver 5 = .ok (.iaload, 1) := by decide +kernel
theorem d_Fl_pushOver_6 : decode c_Fl_pushOver 6 = .ok (.iload_n 2, 1) := by decide +kernel
theorem d_Fl_pushOver_7 : decode c_Fl_pushOver 7 = .ok (.invokestatic 50, 3) := by decide +kernel
theorem d_Fl_pushOver_10 : decode c_Fl_pushOver 10 = .ok (.ifCond .eq 36, 3) := by decide +kernel
theorem d_Fl_pushOver_13 : decode c_Fl_pushOver 13 = .ok (.aload_n 0, 1) := by decide +kernel
theorem d_Fl_pushOver_14 : decode c_Fl_pushOver 14 = .ok (.getfield 18, 3) := by decide +kernel
theorem d_Fl_pushOver_17 : decode c_Fl_pushOver 17 = .ok (.iload_n 1, 1) := by decide +kernel
theorem d_Fl_pushOver_18 : decode c_Fl_pushOver 18 = .ok (.dup2, 1) := by decide +kernel
theorem d_Fl_pushOver_19 : decode c_Fl_pushOver 19 = .ok (.iaload, 1) := by decide +kernel
theorem d_Fl_pushOver_20 : decode c_Fl_pushOver 20 = .ok (.iload_n 2, 1) := by decide +kernel
theorem d_Fl_pushOver_21 : decode c_Fl_pushOver 21 = .ok (.invokestatic 33, 3) := by decide +kernel
theorem d_Fl_pushOver_24 : decode c_Fl_pushOver 24 = .ok (.iconst (-1), 1) := by decide +kernel
theorem d_Fl_pushOver_25 : decode c_Fl_pushOver 25 = .ok (.ixor, 1) := by decide +kernel
theorem d_Fl_pushOver_26 : decode c_Fl_pushOver 26 = .ok (.iand, 1) := by decide +kernel
theorem d_Fl_pushOver_27 : decode c_Fl_pushOver 27 = .ok (.iastore, 1) := by decide +kernel
theorem d_Fl_pushOver_28 : decode c_Fl_pushOver 28 = .ok (.aload_n 0, 1) := by decide +kernel
theorem d_Fl_pushOver_29 : decode c_Fl_pushOver 29 = .ok (.getfield 15, 3) := by decide +kernel
theorem d_Fl_pushOver_32 : decode c_Fl_pushOver 32 = .ok (.iload_n 2, 1) := by decide +kernel
theorem d_Fl_pushOver_33 : decode c_Fl_pushOver 33 = .ok (.dup2, 1) := by decide +kernel
theorem d_Fl_pushOver_34 : decode c_Fl_pushOver 34 = .ok (.iaload, 1) := by decide +kernel
theorem d_Fl_pushOver_35 : decode c_Fl_pushOver 35 = .ok (.iload_n 1, 1) := by decide +kernel
theorem d_Fl_pushOver_36 : decode c_Fl_pushOver 36 = .ok (.invokestatic 33, 3) := by decide +kernel
theorem d_Fl_pushOver_39 : decode c_Fl_pushOver 39 = .ok (.iconst (-1), 1) := by decide +kernel
theorem d_Fl_pushOver_40 : decode c_Fl_pushOver 40 = .ok (.ixor, 1) := by decide +kernel
theorem d_Fl_pushOver_41 : decode c_Fl_pushOver 41 = .ok (.iand, 1) := by decide +kernel
theorem d_Fl_pushOver_42 : decode c_Fl_pushOver 42 = .ok (.iastore, 1) := by decide +kernel
theorem d_Fl_pushOver_43 : decode c_Fl_pushOver 43 = .ok (.goto 29, 3) := by decide +kernel
theorem d_Fl_pushOver_46 : decode c_Fl_pushOver 46 = .ok (.aload_n 0, 1) := by decide +kernel
theorem d_Fl_pushOver_47 : decode c_Fl_pushOver 47 = .ok (.getfield 15, 3) := by decide +kernel
theorem d_Fl_pushOver_50 : decode c_Fl_pushOver 50 = .ok (.iload_n 1, 1) := by decide +kernel
theorem d_Fl_pushOver_51 : decode c_Fl_pushOver 51 = .ok (.dup2, 1) := by decide +kernel
theorem d_Fl_pushOver_52 : decode c_Fl_pushOver 52 = .ok (.iaload, 1) := by decide +kernel
theorem d_Fl_pushOver_53 : decode c_Fl_pushOver 53 = .ok (.iload_n 2, 1) := by decide +kernel
theorem d_Fl_pushOver_54 : decode c_Fl_pushOver 54 = .ok (.invokestatic 33, 3) := by decide +kernel
theorem d_Fl_pushOver_57 : decode c_Fl_pushOver 57 = .ok (.ior, 1) := by decide +kernel
theorem d_Fl_pushOver_58 : decode c_Fl_pushOver 58 = .ok (.iastore, 1) := by decide +kernel
theorem d_Fl_pushOver_59 : decode c_Fl_pushOver 59 = .ok (.aload_n 0, 1) := by decide +kernel
theorem d_Fl_pushOver_60 : decode c_Fl_pushOver 60 = .ok (.getfield 18, 3) := by decide +kernel
theorem d_Fl_pushOver_63 : decode c_Fl_pushOver 63 = .ok (.iload_n 2, 1) := by decide +kernel
theorem d_Fl_pushOver_64 : decode c_Fl_pushOver 64 = .ok (.dup2, 1) := by decide +kernel
theorem d_Fl_pushOver_65 : decode c_Fl_pushOver 65 = .ok (.iaload, 1) := by decide +kernel
theorem d_Fl_pushOver_66 : decode c_Fl_pushOver 66 = .ok (.iload_n 1, 1) := by decide +kernel
theorem d_Fl_pushOver_67 : decode c_Fl_pushOver 67 = .ok (.invokestatic 33, 3) := by decide +kernel
theorem d_Fl_pushOver_70 : decode c_Fl_pushOver 70 = .ok (.ior, 1) := by decide +kernel
theorem d_Fl_pushOver_71 : decode c_Fl_pushOver 71 = .ok (.iastore, 1) := by decide +kernel
theorem d_Fl_pushOver_72 : decode c_Fl_pushOver 72 = .ok (.return_, 1) := by decide +kernel
theorem d_Fl_readArrows_0 : decode c_Fl_readArrows 0 = .ok (.iconst 0, 1) := by decide +kernel
theorem d_Fl_readArrows_1 : decode c_Fl_readArrows 1 = .ok (.istore_n 2, 1) := by decide +kernel
theorem d_Fl_readArrows_2 : decode c_Fl_readArrows 2 = .ok (.iload_n 2, 1) := by decide +kernel
theorem d_Fl_readArrows_3 : decode c_Fl_readArrows 3 = .ok (.bipush 16, 2) := by decide +kernel
theorem d_Fl_readArrows_5 : decode c_Fl_readArrows 5 = .ok (.if_icmp .ge 20, 3) := by decide +kernel
theorem d_Fl_readArrows_8 : decode c_Fl_readArrows 8 = .ok (.aload_n 0, 1) := by decide +kernel
theorem d_Fl_readArrows_9 : decode c_Fl_readArrows 9 = .ok (.getfield 11, 3) := by decide +kernel
theorem d_Fl_readArrows_12 : decode c_Fl_readArrows 12 = .ok (.iload_n 2, 1) := by decide +kernel
theorem d_Fl_readArrows_13 : decode c_Fl_readArrows 13 = .ok (.aload_n 1, 1) := by decide +kernel
theorem d_Fl_readArrows_14 : decode c_Fl_readArrows 14 = .ok (.iload_n 2, 1) := by decide +kernel
theorem d_Fl_readArrows_15 : decode c_Fl_readArrows 15 = .ok (.invokevirtual 24, 3) := by decide +kernel
theorem d_Fl_readArrows_18 : decode c_Fl_readArrows 18 = .ok (.iastore, 1) := by decide +kernel
theorem d_Fl_readArrows_19 : decode c_Fl_readArrows 19 = .ok (.iinc 2 1, 3) := by decide +kernel
theorem d_Fl_readArrows_22 : decode c_Fl_readArrows 22 = .ok (.goto (-20), 3) := by decide +kernel
theorem d_Fl_readArrows_25 : decode c_Fl_readArrows 25 = .ok (.return_, 1) := by decide +kernel
theorem d_Gr_pairs_0 : decode c_Gr_pairs 0 = .ok (.iconst 0, 1) := by decide +kernel
theorem d_Gr_pairs_1 : decode c_Gr_pairs 1 = .ok (.istore_n 1, 1) := by decide +kernel
theorem d_Gr_pairs_2 : decode c_Gr_pairs 2 = .ok (.iconst 0, 1) := by decide +kernel
theorem d_Gr_pairs_3 : decode c_Gr_pairs 3 = .ok (.istore_n 2, 1) := by decide +kernel
theorem d_Gr_pairs_4 : decode c_Gr_pairs 4 = .ok (.iload_n 2, 1) := by decide +kernel
theorem d_Gr_pairs_5 : decode c_Gr_pairs 5 = .ok (.bipush 16, 2) := by decide +kernel
theorem d_Gr_pairs_7 : decode c_Gr_pairs 7 = .ok (.if_icmp .ge 21, 3) := by decide +kernel
theorem d_Gr_pairs_10 : decode c_Gr_pairs 10 = .ok (.iload_n 1, 1) := by decide +kernel
theorem d_Gr_pairs_11 : decode c_Gr_pairs 11 = .ok (.aload_n 0, 1) := by decide +kernel
theorem d_Gr_pairs_12 : decode c_Gr_pairs 12 = .ok (.getfield 18, 3) := by decide +kernel
theorem d_Gr_pairs_15 : decode c_Gr_pairs 15 = .ok (.iload_n 2, 1) := by decide +kernel
theorem d_Gr_pairs_16 : decode c_Gr_pairs 16 = .ok (.iaload, 1) := by decide +kernel
theorem d_Gr_pairs_17 : decode c_Gr_pairs 17 = .ok (.invokestatic 47, 3) := by decide +kernel
theorem d_Gr_pairs_20 : decode c_Gr_pairs 20 = .ok (.iadd, 1) := by decide +kernel
theorem d_Gr_pairs_21 : decode c_Gr_pairs 21 = .ok (.istore_n 1, 1) := by decide +kernel
theorem d_Gr_pairs_22 : decode c_Gr_pairs 22 = .ok (.iinc 2 1, 3) := by decide +kernel
theorem d_Gr_pairs_25 : decode c_Gr_pairs 25 = .ok (.goto (-21), 3) := by decide +kernel
theorem d_Gr_pairs_28 : decode c_Gr_pairs 28 = .ok (.iload_n 1, 1) := by decide +kernel
theorem d_Gr_pairs_29 : decode c_Gr_pairs 29 = .ok (.ireturn, 1) := by decide +kernel
theorem d_Gr_pairsWithoutDetour_0 : decode c_Gr_pairsWithoutDetour 0 = .ok (.iconst 0, 1) := by decide +kernel
theorem d_Gr_pairsWithoutDetour_1 : decode c_Gr_pairsWithoutDetour 1 = .ok (.istore_n 1, 1) := by decide +kernel
theorem d_Gr_pairsWithoutDetour_2 : decode c_Gr_pairsWithoutDetour 2 = .ok (.iconst 0, 1) := by decide +kernel
theorem d_Gr_pairsWithoutDetour_3 : decode c_Gr_pairsWithoutDetour 3 = .ok (.istore_n 2, 1) := by decide +kernel
theorem d_Gr_pairsWithoutDetour_4 : decode c_Gr_pairsWithoutDetour 4 = .ok (.iload_n 2, 1) := by decide +kernel
theorem d_Gr_pairsWithoutDetour_5 : decode c_Gr_pairsWithoutDetour 5 = .ok (.bipush 16, 2) := by decide +kernel
theorem d_Gr_pairsWithoutDetour_7 : decode c_Gr_pairsWithoutDetour 7 = .ok (.if_icmp .ge 60, 3) := by decide +kernel
theorem d_Gr_pairsWithoutDetour_10 : decode c_Gr_pairsWithoutDetour 10 = .ok (.iconst 0, 1) := by decide +kernel
theorem d_Gr_pairsWithoutDetour_11 : decode c_Gr_pairsWithoutDetour 11 = .ok (.istore_n 3, 1) := by decide +kernel
theorem d_Gr_pairsWithoutDetour_12 : decode c_Gr_pairsWithoutDetour 12 = .ok (.iload_n 3, 1) := by decide +kernel
theorem d_Gr_pairsWithoutDetour_13 : decode c_Gr_pairsWithoutDetour 13 = .ok (.bipush 16, 2) := by decide +kernel
theorem d_Gr_pairsWithoutDetour_15 : decode c_Gr_pairsWithoutDetour 15 = .ok (.if_icmp .ge 46, 3) := by decide +kernel
theorem d_Gr_pairsWithoutDetour_18 : decode c_Gr_pairsWithoutDetour 18 = .ok (.aload_n 0, 1) := by decide +kernel
theorem d_Gr_pairsWithoutDetour_19 : decode c_Gr_pairsWithoutDetour 19 = .ok (.getfield 18, 3) := by decide +kernel
theorem d_Gr_pairsWithoutDetour_22 : decode c_Gr_pairsWithoutDetour 22 = .ok (.iload_n 2, 1) := by decide +kernel
theorem d_Gr_pairsWithoutDetour_23 : decode c_Gr_pairsWithoutDetour 23 = .ok (.iaload, 1) := by decide +kernel
theorem d_Gr_pairsWithoutDetour_24 : decode c_Gr_pairsWithoutDetour 24 = .ok (.iload_n 3, 1) := by decide +kernel
theorem d_Gr_pairsWithoutDetour_25 : decode c_Gr_pairsWithoutDetour 25 = .ok (.invokestatic 53, 3) := by decide +kernel
theorem d_Gr_pairsWithoutDetour_28 : decode c_Gr_pairsWithoutDetour 28 = .ok (.ifCond .eq 27, 3) := by decide +kernel
theorem d_Gr_pairsWithoutDetour_31 : decode c_Gr_pairsWithoutDetour 31 = .ok (.aload_n 0, 1) := by decide +kernel
theorem d_Gr_pairsWithoutDetour_32 : decode c_Gr_pairsWithoutDetour 32 = .ok (.aload_n 0, 1) := by decide +kernel
theorem d_Gr_pairsWithoutDetour_33 : decode c_Gr_pairsWithoutDetour 33 = .ok (.getfield 18, 3) := by decide +kernel
theorem d_Gr_pairsWithoutDetour_36 : decode c_Gr_pairsWithoutDetour 36 = .ok (.iload_n 2, 1) := by decide +kernel
theorem d_Gr_pairsWithoutDetour_37 : decode c_Gr_pairsWithoutDetour 37 = .ok (.iaload, 1) := by decide +kernel
theorem d_Gr_pairsWithoutDetour_38 : decode c_Gr_pairsWithoutDetour 38 = .ok (.iload_n 3, 1) := by decide +kernel
theorem d_Gr_pairsWithoutDetour_39 : decode c_Gr_pairsWithoutDetour 39 = .ok (.invokestatic 57, 3) := by decide +kernel
theorem d_Gr_pairsWithoutDetour_42 : decode c_Gr_pairsWithoutDetour 42 = .ok (.iconst (-1), 1) := by decide +kernel
theorem d_Gr_pairsWithoutDetour_43 : decode c_Gr_pairsWithoutDetour 43 = .ok (.ixor, 1) := by decide +kernel
theorem d_Gr_pairsWithoutDetour_44 : decode c_Gr_pairsWithoutDetour 44 = .ok (.iand, 1) := by decide +kernel
theorem d_Gr_pairsWithoutDetour_45 : decode c_Gr_pairsWithoutDetour 45 = .ok (.iload_n 3, 1) := by decide +kernel
theorem d_Gr_pairsWithoutDetour_46 : decode c_Gr_pairsWithoutDetour 46 = .ok (.invokevirtual 60, 3) := by decide +kernel
theorem d_Gr_pairsWithoutDetour_49 : decode c_Gr_pairsWithoutDetour 49 = .ok (.ifCond .ne 6, 3) := by decide +kernel
theorem d_Gr_pairsWithoutDetour_52 : decode c_Gr_pairsWithoutDetour 52 = .ok (.iinc 1 1, 3) := by decide +kernel
theorem d_Gr_pairsWithoutDetour_55 : decode c_Gr_pairsWithoutDetour 55 = .ok (.iinc 3 1, 3) := by decide +kernel
theorem d_Gr_pairsWithoutDetour_58 : decode c_Gr_pairsWithoutDetour 58 = .ok (.goto (-46), 3) := by decide +kernel
theorem d_Gr_pairsWithoutDetour_61 : decode c_Gr_pairsWithoutDetour 61 = .ok (.iinc 2 1, 3) := by decide +kernel
theorem d_Gr_pairsWithoutDetour_64 : decode c_Gr_pairsWithoutDetour 64 = .ok (.goto (-60), 3) := by decide +kernel
theorem d_Gr_pairsWithoutDetour_67 : decode c_Gr_pairsWithoutDetour 67 = .ok (.iload_n 1, 1) := by decide +kernel
theorem d_Gr_pairsWithoutDetour_68 : decode c_Gr_pairsWithoutDetour 68 = .ok (.ireturn, 1) := by decide +kernel
theorem d_Gr_reachedFromOneOf_0 : decode c_Gr_reachedFromOneOf 0 = .ok (.iconst 0, 1) := by decide +kernel
theorem d_Gr_reachedFromOneOf_1 : decode c_Gr_reachedFromOneOf 1 = .ok (.istore_n 3, 1) := by decide +kernel
theorem d_Gr_reachedFromOneOf_2 : decode c_Gr_reachedFromOneOf 2 = .ok (.iload_n 3, 1) := by decide +kernel
theorem d_Gr_reachedFromOneOf_3 : decode c_Gr_reachedFromOneOf 3 = .ok (.bipush 16, 2) := by decide +kernel
theorem d_Gr_reachedFromOneOf_5 : decode c_Gr_reachedFromOneOf 5 = .ok (.if_icmp .ge 32, 3) := by decide +kernel
theorem d_Gr_reachedFromOneOf_8 : decode c_Gr_reachedFromOneOf 8 = .ok (.iload_n 1, 1) := by decide +kernel
theorem d_Gr_reachedFromOneOf_9 : decode c_Gr_reachedFromOneOf 9 = .ok (.iload_n 3, 1) := by decide +kernel
theorem d_Gr_reachedFromOneOf_10 : decode c_Gr_reachedFromOneOf 10 = .ok (.invokestatic 53, 3) := by decide +kernel
theorem d_Gr_reachedFromOneOf_13 : decode c_Gr_reachedFromOneOf 13 = .ok (.ifCond .eq 18, 3) := by decide +kernel
theorem d_Gr_reachedFromOneOf_16 : decode c_Gr_reachedFromOneOf 16 = .ok (.aload_n 0, 1) := by decide +kernel
theorem d_Gr_reachedFromOneOf_17 : decode c_Gr_reachedFromOneOf 17 = .ok (.getfield 9, 3) := by decide +kernel
theorem d_Gr_reachedFromOneOf_20 : decode c_Gr_reachedFromOneOf 20 = .ok (.iload_n 3, 1) := by decide +kernel
theorem d_Gr_reachedFromOneOf_21 : decode c_Gr_reachedFromOneOf 21 = .ok (.iaload, 1) := by decide +kernel
theorem d_Gr_reachedFromOneOf_22 : decode c_Gr_reachedFromOneOf 22 = .ok (.iload_n 2, 1) := by decide +kernel
theorem d_Gr_reachedFromOneOf_23 : decode c_Gr_reachedFromOneOf 23 = .ok (.invokestatic 53, 3) := by decide +kernel
theorem d_Gr_reachedFromOneOf_26 : decode c_Gr_reachedFromOneOf 26 = .ok (.ifCond .eq 5, 3) := by decide +kernel
theorem d_Gr_reachedFromOneOf_29 : decode c_Gr_reachedFromOneOf 29 = .ok (.iconst 1, 1) := by decide +kernel
theorem d_Gr_reachedFromOneOf_30 : decode c_Gr_reachedFromOneOf 30 = .ok (.ireturn, 1) := by decide +kernel
theorem d_Gr_reachedFromOneOf_31 : decode c_Gr_reachedFromOneOf 31 = .ok (.iinc 3 1, 3) := by decide +kernel
theorem d_Gr_reachedFromOneOf_34 : decode c_Gr_reachedFromOneOf 34 = .ok (.goto (-32), 3) := by decide +kernel
theorem d_Gr_reachedFromOneOf_37 : decode c_Gr_reachedFromOneOf 37 = .ok (.iconst 0, 1) := by decide +kernel
theorem d_Gr_reachedFromOneOf_38 : decode c_Gr_reachedFromOneOf 38 = .ok (.ireturn, 1) := by decide +kernel
theorem d_Gr_longestChain_0 : decode c_Gr_longestChain 0 = .ok (.iconst 0, 1) := by decide +kernel
theorem d_Gr_longestChain_1 : decode c_Gr_longestChain 1 = .ok (.istore_n 1, 1) := by decide +kernel
theorem d_Gr_longestChain_2 : decode c_Gr_longestChain 2 = .ok (.iconst 0, 1) := by decide +kernel
theorem d_Gr_longestChain_3 : decode c_Gr_longestChain 3 = .ok (.istore_n 2, 1) := by decide +kernel
theorem d_Gr_longestChain_4 : decode c_Gr_longestChain 4 = .ok (.iload_n 2, 1) := by decide +kernel
theorem d_Gr_longestChain_5 : decode c_Gr_longestChain 5 = .ok (.aload_n 0, 1) := by decide +kernel
theorem d_Gr_longestChain_6 : decode c_Gr_longestChain 6 = .ok (.getfield 30, 3) := by decide +kernel
theorem d_Gr_longestChain_9 : decode c_Gr_longestChain 9 = .ok (.if_icmp .ge 45, 3) := by decide +kernel
theorem d_Gr_longestChain_12 : decode c_Gr_longestChain 12 = .ok (.aload_n 0, 1) := by decide +kernel
theorem d_Gr_longestChain_13 : decode c_Gr_longestChain 13 = .ok (.getfield 24, 3) := by decide +kernel
theorem d_Gr_longestChain_16 : decode c_Gr_longestChain 16 = .ok (.iload_n 2, 1) := by decide +kernel
theorem d_Gr_longestChain_17 : decode c_Gr_longestChain 17 = .ok (.iaload, 1) := by decide +kernel
theorem d_Gr_longestChain_18 : decode c_Gr_longestChain 18 = .ok (.istore_n 3, 1) := by decide +kernel
theorem d_Gr_longestChain_19 : decode c_Gr_longestChain 19 = .ok (.aload_n 0, 1) := by decide +kernel
theorem d_Gr_longestChain_20 : decode c_Gr_longestChain 20 = .ok (.getfield 27, 3) := by decide +kernel
theorem d_Gr_longestChain_23 : decode c_Gr_longestChain 23 = .ok (.iload_n 3, 1) := by decide +kernel
theorem d_Gr_longestChain_24 : decode c_Gr_longestChain 24 = .ok (.iconst 1, 1) := by decide +kernel
theorem d_Gr_longestChain_25 : decode c_Gr_longestChain 25 = .ok (.aload_n 0, 1) := by decide +kernel
theorem d_Gr_longestChain_26 : decode c_Gr_longestChain 26 = .ok (.aload_n 0, 1) := by decide +kernel
theorem d_Gr_longestChain_27 : decode c_Gr_longestChain 27 = .ok (.getfield 21, 3) := by decide +kernel
theorem d_Gr_longestChain_30 : decode c_Gr_longestChain 30 = .ok (.iload_n 3, 1) := by decide +kernel
theorem d_Gr_longestChain_31 : decode c_Gr_longestChain 31 = .ok (.iaload, 1) := by decide +kernel
theorem d_Gr_longestChain_32 : decode c_Gr_longestChain 32 = .ok (.invokevirtual 63, 3) := by decide +kernel
theorem d_Gr_longestChain_35 : decode c_Gr_longestChain 35 = .ok (.iadd, 1) := by decide +kernel
theorem d_Gr_longestChain_36 : decode c_Gr_longestChain 36 = .ok (.iastore, 1) := by decide +kernel
theorem d_Gr_longestChain_37 : decode c_Gr_longestChain 37 = .ok (.iload_n 1, 1) := by decide +kernel
theorem d_Gr_longestChain_38 : decode c_Gr_longestChain 38 = .ok (.aload_n 0, 1) := by decide +kernel
theorem d_Gr_longestChain_39 : decode c_Gr_longestChain 39 = .ok (.getfield 27, 3) := by decide +kernel
theorem d_Gr_longestChain_42 : decode c_Gr_longestChain 42 = .ok (.iload_n 3, 1) := by decide +kernel
theorem d_Gr_longestChain_43 : decode c_Gr_longestChain 43 = .ok (.iaload, 1) := by decide +kernel
theorem d_Gr_longestChain_44 : decode c_Gr_longestChain 44 = .ok (.invokestatic 66, 3) := by decide +kernel
theorem d_Gr_longestChain_47 : decode c_Gr_longestChain 47 = .ok (.istore_n 1, 1) := by decide +kernel
theorem d_Gr_longestChain_48 : decode c_Gr_longestChain 48 = .ok (.iinc 2 1, 3) := by decide +kernel
theorem d_Gr_longestChain_51 : decode c_Gr_longestChain 51 = .ok (.goto (-47), 3) := by decide +kernel
theorem d_Gr_longestChain_54 : decode c_Gr_longestChain 54 = .ok (.iload_n 1, 1) := by decide +kernel
theorem d_Gr_longestChain_55 : decode c_Gr_longestChain 55 = .ok (.ireturn, 1) := by decide +kernel
theorem d_Gr_longestOf_0 : decode c_Gr_longestOf 0 = .ok (.iconst 0, 1) := by decide +kernel
theorem d_Gr_longestOf_1 : decode c_Gr_longestOf 1 = .ok (.istore_n 2, 1) := by decide +kernel
theorem d_Gr_longestOf_2 : decode c_Gr_longestOf 2 = .ok (.iconst 0, 1) := by decide +kernel
theorem d_Gr_longestOf_3 : decode c_Gr_longestOf 3 = .ok (.istore_n 3, 1) := by decide +kernel
theorem d_Gr_longestOf_4 : decode c_Gr_longestOf 4 = .ok (.iload_n 3, 1) := by decide +kernel
theorem d_Gr_longestOf_5 : decode c_Gr_longestOf 5 = .ok (.bipush 16, 2) := by decide +kernel
theorem d_Gr_longestOf_7 : decode c_Gr_longestOf 7 = .ok (.if_icmp .ge 28, 3) := by decide +kernel
theorem d_Gr_longestOf_10 : decode c_Gr_longestOf 10 = .ok (.iload_n 1, 1) := by decide +kernel
theorem d_Gr_longestOf_11 : decode c_Gr_longestOf 11 = .ok (.iload_n 3, 1) := by decide +kernel
theorem d_Gr_longestOf_12 : decode c_Gr_longestOf 12 = .ok (.invokestatic 53, 3) := by decide +kernel
theorem d_Gr_longestOf_15 : decode c_Gr_longestOf 15 = .ok (.ifCond .eq 14, 3) := by decide +kernel
theorem d_Gr_longestOf_18 : decode c_Gr_longestOf 18 = .ok (.iload_n 2, 1) := by decide +kernel
theorem d_Gr_longestOf_19 : decode c_Gr_longestOf 19 = .ok (.aload_n 0, 1) := by decide +kernel
theorem d_Gr_longestOf_20 : decode c_Gr_longestOf 20 = .ok (.getfield 27, 3) := by decide +kernel
theorem d_Gr_longestOf_23 : decode c_Gr_longestOf 23 = .ok (.iload_n 3, 1) := by decide +kernel
theorem d_Gr_longestOf_24 : decode c_Gr_longestOf 24 = .ok (.iaload, 1) := by decide +kernel
theorem d_Gr_longestOf_25 : decode c_Gr_longestOf 25 = .ok (.invokestatic 66, 3) := by decide +kernel
theorem d_Gr_longestOf_28 : decode c_Gr_longestOf 28 = .ok (.istore_n 2, 1) := by decide +kernel
theorem d_Gr_longestOf_29 : decode c_Gr_longestOf 29 = .ok (.iinc 3 1, 3) := by decide +kernel
theorem d_Gr_longestOf_32 : decode c_Gr_longestOf 32 = .ok (.goto (-28), 3) := by decide +kernel
theorem d_Gr_longestOf_35 : decode c_Gr_longestOf 35 = .ok (.iload_n 2, 1) := by decide +kernel
theorem d_Gr_longestOf_36 : decode c_Gr_longestOf 36 = .ok (.ireturn, 1) := by decide +kernel
