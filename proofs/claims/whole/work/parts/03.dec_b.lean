theorem dX9_init_0 : decode cX9_init 0 = .ok (.aload_n 0, 1) := by decide +kernel
theorem dX9_init_1 : decode cX9_init 1 = .ok (.invokespecial 3, 3) := by decide +kernel
theorem dX9_init_4 : decode cX9_init 4 = .ok (.aload_n 0, 1) := by decide +kernel
theorem dX9_init_5 : decode cX9_init 5 = .ok (.new 9, 3) := by decide +kernel
theorem dX9_init_8 : decode cX9_init 8 = .ok (.dup, 1) := by decide +kernel
theorem dX9_init_9 : decode cX9_init 9 = .ok (.invokespecial 11, 3) := by decide +kernel
theorem dX9_init_12 : decode cX9_init 12 = .ok (.putfield 12, 3) := by decide +kernel
theorem dX9_init_15 : decode cX9_init 15 = .ok (.aload_n 0, 1) := by decide +kernel
theorem dX9_init_16 : decode cX9_init 16 = .ok (.new 16, 3) := by decide +kernel
theorem dX9_init_19 : decode cX9_init 19 = .ok (.dup, 1) := by decide +kernel
theorem dX9_init_20 : decode cX9_init 20 = .ok (.invokespecial 18, 3) := by decide +kernel
theorem dX9_init_23 : decode cX9_init 23 = .ok (.putfield 19, 3) := by decide +kernel
theorem dX9_init_26 : decode cX9_init 26 = .ok (.aload_n 0, 1) := by decide +kernel
theorem dX9_init_27 : decode cX9_init 27 = .ok (.new 23, 3) := by decide +kernel
theorem dX9_init_30 : decode cX9_init 30 = .ok (.dup, 1) := by decide +kernel
theorem dX9_init_31 : decode cX9_init 31 = .ok (.invokespecial 25, 3) := by decide +kernel
theorem dX9_init_34 : decode cX9_init 34 = .ok (.putfield 26, 3) := by decide +kernel
theorem dX9_init_37 : decode cX9_init 37 = .ok (.aload_n 0, 1) := by decide +kernel
theorem dX9_init_38 : decode cX9_init 38 = .ok (.new 30, 3) := by decide +kernel
theorem dX9_init_41 : decode cX9_init 41 = .ok (.dup, 1) := by decide +kernel
theorem dX9_init_42 : decode cX9_init 42 = .ok (.invokespecial 32, 3) := by decide +kernel
theorem dX9_init_45 : decode cX9_init 45 = .ok (.putfield 33, 3) := by decide +kernel
theorem dX9_init_48 : decode cX9_init 48 = .ok (.aload_n 0, 1) := by decide +kernel
theorem dX9_init_49 : decode cX9_init 49 = .ok (.new 37, 3) := by decide +kernel
theorem dX9_init_52 : decode cX9_init 52 = .ok (.dup, 1) := by decide +kernel
theorem dX9_init_53 : decode cX9_init 53 = .ok (.invokespecial 39, 3) := by decide +kernel
theorem dX9_init_56 : decode cX9_init 56 = .ok (.putfield 40, 3) := by decide +kernel
theorem dX9_init_59 : decode cX9_init 59 = .ok (.aload_n 0, 1) := by decide +kernel
theorem dX9_init_60 : decode cX9_init 60 = .ok (.new 44, 3) := by decide +kernel
theorem dX9_init_63 : decode cX9_init 63 = .ok (.dup, 1) := by decide +kernel
theorem dX9_init_64 : decode cX9_init 64 = .ok (.invokespecial 46, 3) := by decide +kernel
theorem dX9_init_67 : decode cX9_init 67 = .ok (.putfield 47, 3) := by decide +kernel
theorem dX9_init_70 : decode cX9_init 70 = .ok (.aload_n 0, 1) := by decide +kernel
theorem dX9_init_71 : decode cX9_init 71 = .ok (.new 44, 3) := by decide +kernel
theorem dX9_init_74 : decode cX9_init 74 = .ok (.dup, 1) := by decide +kernel
theorem dX9_init_75 : decode cX9_init 75 = .ok (.invokespecial 46, 3) := by decide +kernel
theorem dX9_init_78 : decode cX9_init 78 = .ok (.putfield 51, 3) := by decide +kernel
theorem dX9_init_81 : decode cX9_init 81 = .ok (.aload_n 0, 1) := by decide +kernel
theorem dX9_init_82 : decode cX9_init 82 = .ok (.bipush 24, 2) := by decide +kernel
theorem dX9_init_84 : decode cX9_init 84 = .ok (.newarray .int, 2) := by decide +kernel
theorem dX9_init_86 : decode cX9_init 86 = .ok (.putfield 54, 3) := by decide +kernel
theorem dX9_init_89 : decode cX9_init 89 = .ok (.aload_n 0, 1) := by decide +kernel
theorem dX9_init_90 : decode cX9_init 90 = .ok (.aconst_null, 1) := by decide +kernel
theorem dX9_init_91 : decode cX9_init 91 = .ok (.putfield 58, 3) := by decide +kernel
theorem dX9_init_94 : decode cX9_init 94 = .ok (.aload_n 0, 1) := by decide +kernel
theorem dX9_init_95 : decode cX9_init 95 = .ok (.ldc2_w 64, 3) := by decide +kernel
theorem dX9_init_98 : decode cX9_init 98 = .ok (.iconst 0, 1) := by decide +kernel
theorem dX9_init_99 : decode cX9_init 99 = .ok (.iconst 0, 1) := by decide +kernel
theorem dX9_init_100 : decode cX9_init 100 = .ok (.iconst 0, 1) := by decide +kernel
theorem dX9_init_101 : decode cX9_init 101 = .ok (.invokestatic 66, 3) := by decide +kernel
theorem dX9_init_104 : decode cX9_init 104 = .ok (.iconst 3, 1) := by decide +kernel
theorem dX9_init_105 : decode cX9_init 105 = .ok (.bipush 24, 2) := by decide +kernel
theorem dX9_init_107 : decode cX9_init 107 = .ok (.iconst 0, 1) := by decide +kernel
theorem dX9_init_108 : decode cX9_init 108 = .ok (.invokestatic 66, 3) := by decide +kernel
theorem dX9_init_111 : decode cX9_init 111 = .ok (.putfield 70, 3) := by decide +kernel
theorem dX9_init_114 : decode cX9_init 114 = .ok (.return_, 1) := by decide +kernel
theorem dX9_say_0 : decode cX9_say 0 = .ok (.iload_n 1, 1) := by decide +kernel
theorem dX9_say_1 : decode cX9_say 1 = .ok (.bipush 33, 2) := by decide +kernel
theorem dX9_say_3 : decode cX9_say 3 = .ok (.if_icmp .lt 9, 3) := by decide +kernel
theorem dX9_say_6 : decode cX9_say 6 = .ok (.iload_n 1, 1) := by decide +kernel
theorem dX9_say_7 : decode cX9_say 7 = .ok (.bipush 126, 2) := by decide +kernel
theorem dX9_say_9 : decode cX9_say 9 = .ok (.if_icmp .le 6, 3) := by decide +kernel
theorem dX9_say_12 : decode cX9_say 12 = .ok (.bipush (-2), 2) := by decide +kernel
theorem dX9_say_14 : decode cX9_say 14 = .ok (.ireturn, 1) := by decide +kernel
theorem dX9_say_15 : decode cX9_say 15 = .ok (.aload_n 0, 1) := by decide +kernel
theorem dX9_say_16 : decode cX9_say 16 = .ok (.getfield 12, 3) := by decide +kernel
theorem dX9_say_19 : decode cX9_say 19 = .ok (.iload_n 1, 1) := by decide +kernel
theorem dX9_say_20 : decode cX9_say 20 = .ok (.invokevirtual 74, 3) := by decide +kernel
theorem dX9_say_23 : decode cX9_say 23 = .ok (.ifCond .eq 13, 3) := by decide +kernel
theorem dX9_say_26 : decode cX9_say 26 = .ok (.aload_n 0, 1) := by decide +kernel
theorem dX9_say_27 : decode cX9_say 27 = .ok (.getfield 12, 3) := by decide +kernel
theorem dX9_say_30 : decode cX9_say 30 = .ok (.getfield 78, 3) := by decide +kernel
theorem dX9_say_33 : decode cX9_say 33 = .ok (.goto 5, 3) := by decide +kernel
theorem dX9_say_36 : decode cX9_say 36 = .ok (.bipush (-4), 2) := by decide +kernel
theorem dX9_say_38 : decode cX9_say 38 = .ok (.ireturn, 1) := by decide +kernel
theorem dX9_wipe_0 : decode cX9_wipe 0 = .ok (.aload_n 0, 1) := by decide +kernel
theorem dX9_wipe_1 : decode cX9_wipe 1 = .ok (.getfield 12, 3) := by decide +kernel
theorem dX9_wipe_4 : decode cX9_wipe 4 = .ok (.getfield 78, 3) := by decide +kernel
theorem dX9_wipe_7 : decode cX9_wipe 7 = .ok (.istore_n 1, 1) := by decide +kernel
theorem dX9_wipe_8 : decode cX9_wipe 8 = .ok (.aload_n 0, 1) := by decide +kernel
theorem dX9_wipe_9 : decode cX9_wipe 9 = .ok (.getfield 12, 3) := by decide +kernel
theorem dX9_wipe_12 : decode cX9_wipe 12 = .ok (.invokevirtual 82, 3) := by decide +kernel
theorem dX9_wipe_15 : decode cX9_wipe 15 = .ok (.iload_n 1, 1) := by decide +kernel
theorem dX9_wipe_16 : decode cX9_wipe 16 = .ok (.ireturn, 1) := by decide +kernel
theorem dX9_fault_0 : decode cX9_fault 0 = .ok (.iload_n 1, 1) := by decide +kernel
theorem dX9_fault_1 : decode cX9_fault 1 = .ok (.ifCond .eq 11, 3) := by decide +kernel
theorem dX9_fault_4 : decode cX9_fault 4 = .ok (.iload_n 1, 1) := by decide +kernel
theorem dX9_fault_5 : decode cX9_fault 5 = .ok (.iconst 1, 1) := by decide +kernel
theorem dX9_fault_6 : decode cX9_fault 6 = .ok (.if_icmp .eq 6, 3) := by decide +kernel
theorem dX9_fault_9 : decode cX9_fault 9 = .ok (.bipush (-2), 2) := by decide +kernel
theorem dX9_fault_11 : decode cX9_fault 11 = .ok (.ireturn, 1) := by decide +kernel
theorem dX9_fault_12 : decode cX9_fault 12 = .ok (.iload_n 1, 1) := by decide +kernel
theorem dX9_fault_13 : decode cX9_fault 13 = .ok (.ifCond .ne 13, 3) := by decide +kernel
theorem dX9_fault_16 : decode cX9_fault 16 = .ok (.aload_n 0, 1) := by decide +kernel
theorem dX9_fault_17 : decode cX9_fault 17 = .ok (.getfield 12, 3) := by decide +kernel
theorem dX9_fault_20 : decode cX9_fault 20 = .ok (.invokevirtual 85, 3) := by decide +kernel
theorem dX9_fault_23 : decode cX9_fault 23 = .ok (.goto 10, 3) := by decide +kernel
theorem dX9_fault_26 : decode cX9_fault 26 = .ok (.aload_n 0, 1) := by decide +kernel
theorem dX9_fault_27 : decode cX9_fault 27 = .ok (.getfield 12, 3) := by decide +kernel
theorem dX9_fault_30 : decode cX9_fault 30 = .ok (.invokevirtual 89, 3) := by decide +kernel
theorem dX9_fault_33 : decode cX9_fault 33 = .ok (.ireturn, 1) := by decide +kernel
theorem dX9_lay_0 : decode cX9_lay 0 = .ok (.aload_n 0, 1) := by decide +kernel
theorem dX9_lay_1 : decode cX9_lay 1 = .ok (.getfield 12, 3) := by decide +kernel
theorem dX9_lay_4 : decode cX9_lay 4 = .ok (.invokevirtual 85, 3) := by decide +kernel
theorem dX9_lay_7 : decode cX9_lay 7 = .ok (.bipush (-6), 2) := by decide +kernel
theorem dX9_lay_9 : decode cX9_lay 9 = .ok (.if_icmp .eq 6, 3) := by decide +kernel
theorem dX9_lay_12 : decode cX9_lay 12 = .ok (.bipush (-5), 2) := by decide +kernel
theorem dX9_lay_14 : decode cX9_lay 14 = .ok (.ireturn, 1) := by decide +kernel
theorem dX9_lay_15 : decode cX9_lay 15 = .ok (.aload_n 0, 1) := by decide +kernel
theorem dX9_lay_16 : decode cX9_lay 16 = .ok (.aload_n 0, 1) := by decide +kernel
theorem dX9_lay_17 : decode cX9_lay 17 = .ok (.getfield 12, 3) := by decide +kernel
theorem dX9_lay_20 : decode cX9_lay 20 = .ok (.invokevirtual 92, 3) := by decide +kernel
theorem dX9_lay_23 : decode cX9_lay 23 = .ok (.putfield 70, 3) := by decide +kernel
theorem dX9_lay_26 : decode cX9_lay 26 = .ok (.aload_n 0, 1) := by decide +kernel
theorem dX9_lay_27 : decode cX9_lay 27 = .ok (.getfield 12, 3) := by decide +kernel
theorem dX9_lay_30 : decode cX9_lay 30 = .ok (.invokevirtual 82, 3) := by decide +kernel
theorem dX9_lay_33 : decode cX9_lay 33 = .ok (.aload_n 0, 1) := by decide +kernel
theorem dX9_lay_34 : decode cX9_lay 34 = .ok (.getfield 70, 3) := by decide +kernel
theorem dX9_lay_37 : decode cX9_lay 37 = .ok (.invokestatic 96, 3) := by decide +kernel
theorem dX9_lay_40 : decode cX9_lay 40 = .ok (.ireturn, 1) := by decide +kernel
theorem dX9_law_0 : decode cX9_law 0 = .ok (.iload_n 1, 1) := by decide +kernel
theorem dX9_law_1 : decode cX9_law 1 = .ok (.ifCond .lt 19, 3) := by decide +kernel
theorem dX9_law_4 : decode cX9_law 4 = .ok (.iload_n 2, 1) := by decide +kernel
theorem dX9_law_5 : decode cX9_law 5 = .ok (.iload_n 1, 1) := by decide +kernel
theorem dX9_law_6 : decode cX9_law 6 = .ok (.if_icmp .lt 14, 3) := by decide +kernel
theorem dX9_law_9 : decode cX9_law 9 = .ok (.iload_n 3, 1) := by decide +kernel
theorem dX9_law_10 : decode cX9_law 10 = .ok (.iload_n 2, 1) := by decide +kernel
theorem dX9_law_11 : decode cX9_law 11 = .ok (.if_icmp .lt 9, 3) := by decide +kernel
theorem dX9_law_14 : decode cX9_law 14 = .ok (.iload_n 3, 1) := by decide +kernel
theorem dX9_law_15 : decode cX9_law 15 = .ok (.bipush 9, 2) := by decide +kernel
theorem dX9_law_17 : decode cX9_law 17 = .ok (.if_icmp .le 6, 3) := by decide +kernel
theorem dX9_law_20 : decode cX9_law 20 = .ok (.bipush (-2), 2) := by decide +kernel
theorem dX9_law_22 : decode cX9_law 22 = .ok (.ireturn, 1) := by decide +kernel
theorem dX9_law_23 : decode cX9_law 23 = .ok (.aload_n 0, 1) := by decide +kernel
theorem dX9_law_24 : decode cX9_law 24 = .ok (.getfield 19, 3) := by decide +kernel
theorem dX9_law_27 : decode cX9_law 27 = .ok (.invokevirtual 100, 3) := by decide +kernel
theorem dX9_law_30 : decode cX9_law 30 = .ok (.istore 4, 2) := by decide +kernel
theorem dX9_law_32 : decode cX9_law 32 = .ok (.aload_n 0, 1) := by decide +kernel
theorem dX9_law_33 : decode cX9_law 33 = .ok (.getfield 19, 3) := by decide +kernel
theorem dX9_law_36 : decode cX9_law 36 = .ok (.iload_n 1, 1) := by decide +kernel
theorem dX9_law_37 : decode cX9_law 37 = .ok (.iload_n 2, 1) := by decide +kernel
theorem dX9_law_38 : decode cX9_law 38 = .ok (.iload_n 3, 1) := by decide +kernel
theorem dX9_law_39 : decode cX9_law 39 = .ok (.invokevirtual 103, 3) := by decide +kernel
theorem dX9_law_42 : decode cX9_law 42 = .ok (.iload 4, 2) := by decide +kernel
theorem dX9_law_44 : decode cX9_law 44 = .ok (.ireturn, 1) := by decide +kernel
theorem dX9_man_0 : decode cX9_man 0 = .ok (.iload_n 1, 1) := by decide +kernel
theorem dX9_man_1 : decode cX9_man 1 = .ok (.ifCond .lt 9, 3) := by decide +kernel
theorem dX9_man_4 : decode cX9_man 4 = .ok (.iload_n 1, 1) := by decide +kernel
theorem dX9_man_5 : decode cX9_man 5 = .ok (.bipush 6, 2) := by decide +kernel
theorem dX9_man_7 : decode cX9_man 7 = .ok (.if_icmp .lt 5, 3) := by decide +kernel
theorem dX9_man_10 : decode cX9_man 10 = .ok (.iconst (-1), 1) := by decide +kernel
theorem dX9_man_11 : decode cX9_man 11 = .ok (.ireturn, 1) := by decide +kernel
theorem dX9_man_12 : decode cX9_man 12 = .ok (.iload_n 2, 1) := by decide +kernel
theorem dX9_man_13 : decode cX9_man 13 = .ok (.tableswitch 58 0 2 #[27, 33, 42], 27) := by decide +kernel
theorem dX9_man_40 : decode cX9_man 40 = .ok (.aload_n 0, 1) := by decide +kernel
theorem dX9_man_41 : decode cX9_man 41 = .ok (.iload_n 1, 1) := by decide +kernel
theorem dX9_man_42 : decode cX9_man 42 = .ok (.invokevirtual 107, 3) := by decide +kernel
theorem dX9_man_45 : decode cX9_man 45 = .ok (.ireturn, 1) := by decide +kernel
theorem dX9_man_46 : decode cX9_man 46 = .ok (.aload_n 0, 1) := by decide +kernel
theorem dX9_man_47 : decode cX9_man 47 = .ok (.getfield 70, 3) := by decide +kernel
theorem dX9_man_50 : decode cX9_man 50 = .ok (.iload_n 1, 1) := by decide +kernel
theorem dX9_man_51 : decode cX9_man 51 = .ok (.invokestatic 111, 3) := by decide +kernel
theorem dX9_man_54 : decode cX9_man 54 = .ok (.ireturn, 1) := by decide +kernel
theorem dX9_man_55 : decode cX9_man 55 = .ok (.aload_n 0, 1) := by decide +kernel
theorem dX9_man_56 : decode cX9_man 56 = .ok (.getfield 19, 3) := by decide +kernel
theorem dX9_man_59 : decode cX9_man 59 = .ok (.aload_n 0, 1) := by decide +kernel
theorem dX9_man_60 : decode cX9_man 60 = .ok (.getfield 70, 3) := by decide +kernel
theorem dX9_man_63 : decode cX9_man 63 = .ok (.iload_n 1, 1) := by decide +kernel
theorem dX9_man_64 : decode cX9_man 64 = .ok (.invokestatic 111, 3) := by decide +kernel
theorem dX9_man_67 : decode cX9_man 67 = .ok (.invokevirtual 115, 3) := by decide +kernel
theorem dX9_man_70 : decode cX9_man 70 = .ok (.ireturn, 1) := by decide +kernel
theorem dX9_man_71 : decode cX9_man 71 = .ok (.bipush (-2), 2) := by decide +kernel
theorem dX9_man_73 : decode cX9_man 73 = .ok (.ireturn, 1) := by decide +kernel
theorem dX9_cellOrNone_0 : decode cX9_cellOrNone 0 = .ok (.aload_n 0, 1) := by decide +kernel
theorem dX9_cellOrNone_1 : decode cX9_cellOrNone 1 = .ok (.getfield 70, 3) := by decide +kernel
theorem dX9_cellOrNone_4 : decode cX9_cellOrNone 4 = .ok (.iload_n 1, 1) := by decide +kernel
theorem dX9_cellOrNone_5 : decode cX9_cellOrNone 5 = .ok (.invokestatic 118, 3) := by decide +kernel
theorem dX9_cellOrNone_8 : decode cX9_cellOrNone 8 = .ok (.ifCond .eq 14, 3) := by decide +kernel
theorem dX9_cellOrNone_11 : decode cX9_cellOrNone 11 = .ok (.aload_n 0, 1) := by decide +kernel
theorem dX9_cellOrNone_12 : decode cX9_cellOrNone 12 = .ok (.getfield 70, 3) := by decide +kernel
theorem dX9_cellOrNone_15 : decode cX9_cellOrNone 15 = .ok (.iload_n 1, 1) := by decide +kernel
theorem dX9_cellOrNone_16 : decode cX9_cellOrNone 16 = .ok (.invokestatic 122, 3) := by decide +kernel
theorem dX9_cellOrNone_19 : decode cX9_cellOrNone 19 = .ok (.goto 5, 3) := by decide +kernel
theorem dX9_cellOrNone_22 : decode cX9_cellOrNone 22 = .ok (.bipush (-6), 2) := by decide +kernel
theorem dX9_cellOrNone_24 : decode cX9_cellOrNone 24 = .ok (.ireturn, 1) := by decide +kernel
theorem dX9_on_0 : decode cX9_on 0 = .ok (.iload_n 1, 1) := by decide +kernel
theorem dX9_on_1 : decode cX9_on 1 = .ok (.ifCond .lt 9, 3) := by decide +kernel
theorem dX9_on_4 : decode cX9_on 4 = .ok (.iload_n 1, 1) := by decide +kernel
theorem dX9_on_5 : decode cX9_on 5 = .ok (.bipush 25, 2) := by decide +kernel
theorem dX9_on_7 : decode cX9_on 7 = .ok (.if_icmp .lt 7, 3) := by decide +kernel
theorem dX9_on_10 : decode cX9_on 10 = .ok (.iconst (-1), 1) := by decide +kernel
theorem dX9_on_11 : decode cX9_on 11 = .ok (.goto 11, 3) := by decide +kernel
theorem dX9_on_14 : decode cX9_on 14 = .ok (.aload_n 0, 1) := by decide +kernel
theorem dX9_on_15 : decode cX9_on 15 = .ok (.getfield 70, 3) := by decide +kernel
theorem dX9_on_18 : decode cX9_on 18 = .ok (.iload_n 1, 1) := by decide +kernel
theorem dX9_on_19 : decode cX9_on 19 = .ok (.invokestatic 125, 3) := by decide +kernel
theorem dX9_on_22 : decode cX9_on 22 = .ok (.ireturn, 1) := by decide +kernel
theorem dX9_state_0 : decode cX9_state 0 = .ok (.iload_n 1, 1) := by decide +kernel
theorem dX9_state_1 : decode cX9_state 1 = .ok (.ifCond .eq 11, 3) := by decide +kernel
theorem dX9_state_4 : decode cX9_state 4 = .ok (.iload_n 1, 1) := by decide +kernel
theorem dX9_state_5 : decode cX9_state 5 = .ok (.iconst 1, 1) := by decide +kernel
theorem dX9_state_6 : decode cX9_state 6 = .ok (.if_icmp .eq 6, 3) := by decide +kernel
theorem dX9_state_9 : decode cX9_state 9 = .ok (.bipush (-2), 2) := by decide +kernel
theorem dX9_state_11 : decode cX9_state 11 = .ok (.ireturn, 1) := by decide +kernel
theorem dX9_state_12 : decode cX9_state 12 = .ok (.iload_n 1, 1) := by decide +kernel
theorem dX9_state_13 : decode cX9_state 13 = .ok (.ifCond .ne 13, 3) := by decide +kernel
theorem dX9_state_16 : decode cX9_state 16 = .ok (.aload_n 0, 1) := by decide +kernel
theorem dX9_state_17 : decode cX9_state 17 = .ok (.getfield 70, 3) := by decide +kernel
theorem dX9_state_20 : decode cX9_state 20 = .ok (.invokestatic 128, 3) := by decide +kernel
theorem dX9_state_23 : decode cX9_state 23 = .ok (.goto 14, 3) := by decide +kernel
theorem dX9_state_26 : decode cX9_state 26 = .ok (.aload_n 0, 1) := by decide +kernel
theorem dX9_state_27 : decode cX9_state 27 = .ok (.getfield 19, 3) := by decide +kernel
theorem dX9_state_30 : decode cX9_state 30 = .ok (.aload_n 0, 1) := by decide +kernel
theorem dX9_state_31 : decode cX9_state 31 = .ok (.getfield 70, 3) := by decide +kernel
theorem dX9_state_34 : decode cX9_state 34 = .ok (.invokevirtual 131, 3) := by decide +kernel
theorem dX9_state_37 : decode cX9_state 37 = .ok (.ireturn, 1) := by decide +kernel
theorem dX9_judge_0 : decode cX9_judge 0 = .ok (.iload_n 1, 1) := by decide +kernel
theorem dX9_judge_1 : decode cX9_judge 1 = .ok (.ifCond .eq 11, 3) := by decide +kernel
theorem dX9_judge_4 : decode cX9_judge 4 = .ok (.iload_n 1, 1) := by decide +kernel
theorem dX9_judge_5 : decode cX9_judge 5 = .ok (.iconst 1, 1) := by decide +kernel
theorem dX9_judge_6 : decode cX9_judge 6 = .ok (.if_icmp .eq 6, 3) := by decide +kernel
theorem dX9_judge_9 : decode cX9_judge 9 = .ok (.bipush (-2), 2) := by decide +kernel
theorem dX9_judge_11 : decode cX9_judge 11 = .ok (.ireturn, 1) := by decide +kernel
theorem dX9_judge_12 : decode cX9_judge 12 = .ok (.aload_n 0, 1) := by decide +kernel
theorem dX9_judge_13 : decode cX9_judge 13 = .ok (.getfield 12, 3) := by decide +kernel
theorem dX9_judge_16 : decode cX9_judge 16 = .ok (.invokevirtual 89, 3) := by decide +kernel
theorem dX9_judge_19 : decode cX9_judge 19 = .ok (.bipush (-6), 2) := by decide +kernel
theorem dX9_judge_21 : decode cX9_judge 21 = .ok (.if_icmp .eq 6, 3) := by decide +kernel
theorem dX9_judge_24 : decode cX9_judge 24 = .ok (.bipush (-5), 2) := by decide +kernel
theorem dX9_judge_26 : decode cX9_judge 26 = .ok (.ireturn, 1) := by decide +kernel
theorem dX9_judge_27 : decode cX9_judge 27 = .ok (.aload_n 0, 1) := by decide +kernel
theorem dX9_judge_28 : decode cX9_judge 28 = .ok (.getfield 33, 3) := by decide +kernel
theorem dX9_judge_31 : decode cX9_judge 31 = .ok (.aload_n 0, 1) := by decide +kernel
theorem dX9_judge_32 : decode cX9_judge 32 = .ok (.getfield 19, 3) := by decide +kernel
theorem dX9_judge_35 : decode cX9_judge 35 = .ok (.aload_n 0, 1) := by decide +kernel
theorem dX9_judge_36 : decode cX9_judge 36 = .ok (.getfield 70, 3) := by decide +kernel
theorem dX9_judge_39 : decode cX9_judge 39 = .ok (.aload_n 0, 1) := by decide +kernel
theorem dX9_judge_40 : decode cX9_judge 40 = .ok (.getfield 12, 3) := by decide +kernel
theorem dX9_judge_43 : decode cX9_judge 43 = .ok (.invokevirtual 134, 3) := by decide +kernel
theorem dX9_judge_46 : decode cX9_judge 46 = .ok (.ifCond .eq 6, 3) := by decide +kernel
theorem dX9_judge_49 : decode cX9_judge 49 = .ok (.bipush (-6), 2) := by decide +kernel
theorem dX9_judge_51 : decode cX9_judge 51 = .ok (.ireturn, 1) := by decide +kernel
theorem dX9_judge_52 : decode cX9_judge 52 = .ok (.iload_n 1, 1) := by decide +kernel
theorem dX9_judge_53 : decode cX9_judge 53 = .ok (.ifCond .ne 13, 3) := by decide +kernel
theorem dX9_judge_56 : decode cX9_judge 56 = .ok (.aload_n 0, 1) := by decide +kernel
theorem dX9_judge_57 : decode cX9_judge 57 = .ok (.getfield 33, 3) := by decide +kernel
theorem dX9_judge_60 : decode cX9_judge 60 = .ok (.getfield 138, 3) := by decide +kernel
theorem dX9_judge_63 : decode cX9_judge 63 = .ok (.goto 10, 3) := by decide +kernel
theorem dX9_judge_66 : decode cX9_judge 66 = .ok (.aload_n 0, 1) := by decide +kernel
theorem dX9_judge_67 : decode cX9_judge 67 = .ok (.getfield 33, 3) := by decide +kernel
theorem dX9_judge_70 : decode cX9_judge 70 = .ok (.getfield 141, 3) := by decide +kernel
theorem dX9_judge_73 : decode cX9_judge 73 = .ok (.ireturn, 1) := by decide +kernel
theorem dX9_play_0 : decode cX9_play 0 = .ok (.aload_n 0, 1) := by decide +kernel
theorem dX9_play_1 : decode cX9_play 1 = .ok (.invokevirtual 144, 3) := by decide +kernel
theorem dX9_play_4 : decode cX9_play 4 = .ok (.ifCond .ne 6, 3) := by decide +kernel
theorem dX9_play_7 : decode cX9_play 7 = .ok (.bipush (-5), 2) := by decide +kernel
theorem dX9_play_9 : decode cX9_play 9 = .ok (.ireturn, 1) := by decide +kernel
theorem dX9_play_10 : decode cX9_play 10 = .ok (.aload_n 0, 1) := by decide +kernel
theorem dX9_play_11 : decode cX9_play 11 = .ok (.getfield 12, 3) := by decide +kernel
theorem dX9_play_14 : decode cX9_play 14 = .ok (.invokevirtual 148, 3) := by decide +kernel
theorem dX9_play_17 : decode cX9_play 17 = .ok (.istore_n 1, 1) := by decide +kernel
theorem dX9_play_18 : decode cX9_play 18 = .ok (.aload_n 0, 1) := by decide +kernel
theorem dX9_play_19 : decode cX9_play 19 = .ok (.aload_n 0, 1) := by decide +kernel
theorem dX9_play_20 : decode cX9_play 20 = .ok (.getfield 33, 3) := by decide +kernel
theorem dX9_play_23 : decode cX9_play 23 = .ok (.getfield 151, 3) := by decide +kernel
theorem dX9_play_26 : decode cX9_play 26 = .ok (.putfield 70, 3) := by decide +kernel
theorem dX9_play_29 : decode cX9_play 29 = .ok (.aload_n 0, 1) := by decide +kernel
theorem dX9_play_30 : decode cX9_play 30 = .ok (.getfield 12, 3) := by decide +kernel
theorem dX9_play_33 : decode cX9_play 33 = .ok (.invokevirtual 82, 3) := by decide +kernel
theorem dX9_play_36 : decode cX9_play 36 = .ok (.iload_n 1, 1) := by decide +kernel
theorem dX9_play_37 : decode cX9_play 37 = .ok (.ireturn, 1) := by decide +kernel
theorem dX9_gameIsGood_0 : decode cX9_gameIsGood 0 = .ok (.aload_n 0, 1) := by decide +kernel
theorem dX9_gameIsGood_1 : decode cX9_gameIsGood 1 = .ok (.getfield 12, 3) := by decide +kernel
theorem dX9_gameIsGood_4 : decode cX9_gameIsGood 4 = .ok (.invokevirtual 89, 3) := by decide +kernel
theorem dX9_gameIsGood_7 : decode cX9_gameIsGood 7 = .ok (.bipush (-6), 2) := by decide +kernel
theorem dX9_gameIsGood_9 : decode cX9_gameIsGood 9 = .ok (.if_icmp .ne 29, 3) := by decide +kernel
theorem dX9_gameIsGood_12 : decode cX9_gameIsGood 12 = .ok (.aload_n 0, 1) := by decide +kernel
theorem dX9_gameIsGood_13 : decode cX9_gameIsGood 13 = .ok (.getfield 33, 3) := by decide +kernel
theorem dX9_gameIsGood_16 : decode cX9_gameIsGood 16 = .ok (.aload_n 0, 1) := by decide +kernel
theorem dX9_gameIsGood_17 : decode cX9_gameIsGood 17 = .ok (.getfield 19, 3) := by decide +kernel
theorem dX9_gameIsGood_20 : decode cX9_gameIsGood 20 = .ok (.aload_n 0, 1) := by decide +kernel
theorem dX9_gameIsGood_21 : decode cX9_gameIsGood 21 = .ok (.getfield 70, 3) := by decide +kernel
theorem dX9_gameIsGood_24 : decode cX9_gameIsGood 24 = .ok (.aload_n 0, 1) := by decide +kernel
theorem dX9_gameIsGood_25 : decode cX9_gameIsGood 25 = .ok (.getfield 12, 3) := by decide +kernel
theorem dX9_gameIsGood_28 : decode cX9_gameIsGood 28 = .ok (.invokevirtual 134, 3) := by decide +kernel
theorem dX9_gameIsGood_31 : decode cX9_gameIsGood 31 = .ok (.ifCond .eq 7, 3) := by decide +kernel
theorem dX9_gameIsGood_34 : decode cX9_gameIsGood 34 = .ok (.iconst 1, 1) := by decide +kernel
theorem dX9_gameIsGood_35 : decode cX9_gameIsGood 35 = .ok (.goto 4, 3) := by decide +kernel
theorem dX9_gameIsGood_38 : decode cX9_gameIsGood 38 = .ok (.iconst 0, 1) := by decide +kernel
theorem dX9_gameIsGood_39 : decode cX9_gameIsGood 39 = .ok (.ireturn, 1) := by decide +kernel
theorem dX9_moves_0 : decode cX9_moves 0 = .ok (.aload_n 0, 1) := by decide +kernel
theorem dX9_moves_1 : decode cX9_moves 1 = .ok (.getfield 19, 3) := by decide +kernel
theorem dX9_moves_4 : decode cX9_moves 4 = .ok (.aload_n 0, 1) := by decide +kernel
theorem dX9_moves_5 : decode cX9_moves 5 = .ok (.getfield 70, 3) := by decide +kernel
theorem dX9_moves_8 : decode cX9_moves 8 = .ok (.aload_n 0, 1) := by decide +kernel
theorem dX9_moves_9 : decode cX9_moves 9 = .ok (.getfield 54, 3) := by decide +kernel
theorem dX9_moves_12 : decode cX9_moves 12 = .ok (.iconst 0, 1) := by decide +kernel
theorem dX9_moves_13 : decode cX9_moves 13 = .ok (.invokevirtual 154, 3) := by decide +kernel
theorem dX9_moves_16 : decode cX9_moves 16 = .ok (.istore_n 2, 1) := by decide +kernel
theorem dX9_moves_17 : decode cX9_moves 17 = .ok (.iload_n 1, 1) := by decide +kernel
theorem dX9_moves_18 : decode cX9_moves 18 = .ok (.iconst (-1), 1) := by decide +kernel
theorem dX9_moves_19 : decode cX9_moves 19 = .ok (.if_icmp .ne 5, 3) := by decide +kernel
theorem dX9_moves_22 : decode cX9_moves 22 = .ok (.iload_n 2, 1) := by decide +kernel
theorem dX9_moves_23 : decode cX9_moves 23 = .ok (.ireturn, 1) := by decide +kernel
theorem dX9_moves_24 : decode cX9_moves 24 = .ok (.iload_n 1, 1) := by decide +kernel
theorem dX9_moves_25 : decode cX9_moves 25 = .ok (.ifCond .lt 17, 3) := by decide +kernel
theorem dX9_moves_28 : decode cX9_moves 28 = .ok (.iload_n 1, 1) := by decide +kernel
theorem dX9_moves_29 : decode cX9_moves 29 = .ok (.iload_n 2, 1) := by decide +kernel
theorem dX9_moves_30 : decode cX9_moves 30 = .ok (.if_icmp .ge 12, 3) := by decide +kernel
theorem dX9_moves_33 : decode cX9_moves 33 = .ok (.iload_n 1, 1) := by decide +kernel
theorem dX9_moves_34 : decode cX9_moves 34 = .ok (.aload_n 0, 1) := by decide +kernel
theorem dX9_moves_35 : decode cX9_moves 35 = .ok (.getfield 54, 3) := by decide +kernel
theorem dX9_moves_38 : decode cX9_moves 38 = .ok (.arraylength, 1) := by decide +kernel
theorem dX9_moves_39 : decode cX9_moves 39 = .ok (.if_icmp .lt 8, 3) := by decide +kernel
theorem dX9_moves_42 : decode cX9_moves 42 = .ok (.bipush (-6), 2) := by decide +kernel
theorem dX9_moves_44 : decode cX9_moves 44 = .ok (.goto 16, 3) := by decide +kernel
theorem dX9_moves_47 : decode cX9_moves 47 = .ok (.aload_n 0, 1) := by decide +kernel
theorem dX9_moves_48 : decode cX9_moves 48 = .ok (.getfield 70, 3) := by decide +kernel
theorem dX9_moves_51 : decode cX9_moves 51 = .ok (.aload_n 0, 1) := by decide +kernel
theorem dX9_moves_52 : decode cX9_moves 52 = .ok (.getfield 54, 3) := by decide +kernel
theorem dX9_moves_55 : decode cX9_moves 55 = .ok (.iload_n 1, 1) := by decide +kernel
theorem dX9_moves_56 : decode cX9_moves 56 = .ok (.iaload, 1) := by decide +kernel
theorem dX9_moves_57 : decode cX9_moves 57 = .ok (.invokestatic 158, 3) := by decide +kernel
theorem dX9_moves_60 : decode cX9_moves 60 = .ok (.ireturn, 1) := by decide +kernel
theorem dX9_reach_0 : decode cX9_reach 0 = .ok (.iload_n 1, 1) := by decide +kernel
theorem dX9_reach_1 : decode cX9_reach 1 = .ok (.ifCond .eq 13, 3) := by decide +kernel
theorem dX9_reach_4 : decode cX9_reach 4 = .ok (.iload_n 1, 1) := by decide +kernel
theorem dX9_reach_5 : decode cX9_reach 5 = .ok (.iconst 1, 1) := by decide +kernel
theorem dX9_reach_6 : decode cX9_reach 6 = .ok (.if_icmp .eq 8, 3) := by decide +kernel
theorem dX9_reach_9 : decode cX9_reach 9 = .ok (.bipush (-2), 2) := by decide +kernel
theorem dX9_reach_11 : decode cX9_reach 11 = .ok (.goto 15, 3) := by decide +kernel
theorem dX9_reach_14 : decode cX9_reach 14 = .ok (.aload_n 0, 1) := by decide +kernel
theorem dX9_reach_15 : decode cX9_reach 15 = .ok (.getfield 19, 3) := by decide +kernel
theorem dX9_reach_18 : decode cX9_reach 18 = .ok (.aload_n 0, 1) := by decide +kernel
theorem dX9_reach_19 : decode cX9_reach 19 = .ok (.getfield 70, 3) := by decide +kernel
theorem dX9_reach_22 : decode cX9_reach 22 = .ok (.iload_n 1, 1) := by decide +kernel
theorem dX9_reach_23 : decode cX9_reach 23 = .ok (.invokevirtual 161, 3) := by decide +kernel
theorem dX9_reach_26 : decode cX9_reach 26 = .ok (.ireturn, 1) := by decide +kernel
theorem dX9_youth_0 : decode cX9_youth 0 = .ok (.iload_n 1, 1) := by decide +kernel
theorem dX9_youth_1 : decode cX9_youth 1 = .ok (.ifCond .eq 8, 3) := by decide +kernel
theorem dX9_youth_4 : decode cX9_youth 4 = .ok (.iload_n 1, 1) := by decide +kernel
theorem dX9_youth_5 : decode cX9_youth 5 = .ok (.iconst 1, 1) := by decide +kernel
theorem dX9_youth_6 : decode cX9_youth 6 = .ok (.if_icmp .ne 12, 3) := by decide +kernel
theorem dX9_youth_9 : decode cX9_youth 9 = .ok (.iload_n 2, 1) := by decide +kernel
theorem dX9_youth_10 : decode cX9_youth 10 = .ok (.ifCond .eq 11, 3) := by decide +kernel
theorem dX9_youth_13 : decode cX9_youth 13 = .ok (.iload_n 2, 1) := by decide +kernel
theorem dX9_youth_14 : decode cX9_youth 14 = .ok (.iconst 1, 1) := by decide +kernel
theorem dX9_youth_15 : decode cX9_youth 15 = .ok (.if_icmp .eq 6, 3) := by decide +kernel
theorem dX9_youth_18 : decode cX9_youth 18 = .ok (.bipush (-2), 2) := by decide +kernel
theorem dX9_youth_20 : decode cX9_youth 20 = .ok (.ireturn, 1) := by decide +kernel
theorem dX9_youth_21 : decode cX9_youth 21 = .ok (.iload_n 2, 1) := by decide +kernel
theorem dX9_youth_22 : decode cX9_youth 22 = .ok (.ifCond .ne 18, 3) := by decide +kernel
theorem dX9_youth_25 : decode cX9_youth 25 = .ok (.aload_n 0, 1) := by decide +kernel
theorem dX9_youth_26 : decode cX9_youth 26 = .ok (.getfield 19, 3) := by decide +kernel
theorem dX9_youth_29 : decode cX9_youth 29 = .ok (.aload_n 0, 1) := by decide +kernel
theorem dX9_youth_30 : decode cX9_youth 30 = .ok (.getfield 70, 3) := by decide +kernel
theorem dX9_youth_33 : decode cX9_youth 33 = .ok (.iload_n 1, 1) := by decide +kernel
theorem dX9_youth_34 : decode cX9_youth 34 = .ok (.invokevirtual 164, 3) := by decide +kernel
theorem dX9_youth_37 : decode cX9_youth 37 = .ok (.goto 15, 3) := by decide +kernel
theorem dX9_youth_40 : decode cX9_youth 40 = .ok (.aload_n 0, 1) := by decide +kernel
theorem dX9_youth_41 : decode cX9_youth 41 = .ok (.getfield 19, 3) := by decide +kernel
theorem dX9_youth_44 : decode cX9_youth 44 = .ok (.aload_n 0, 1) := by decide +kernel
theorem dX9_youth_45 : decode cX9_youth 45 = .ok (.getfield 70, 3) := by decide +kernel
theorem dX9_youth_48 : decode cX9_youth 48 = .ok (.iload_n 1, 1) := by decide +kernel
theorem dX9_youth_49 : decode cX9_youth 49 = .ok (.invokevirtual 167, 3) := by decide +kernel
theorem dX9_youth_52 : decode cX9_youth 52 = .ok (.ireturn, 1) := by decide +kernel
theorem dX9_stands_0 : decode cX9_stands 0 = .ok (.aload_n 0, 1) := by decide +kernel
theorem dX9_stands_1 : decode cX9_stands 1 = .ok (.invokevirtual 170, 3) := by decide +kernel
theorem dX9_stands_4 : decode cX9_stands 4 = .ok (.astore_n 1, 1) := by decide +kernel
theorem dX9_stands_5 : decode cX9_stands 5 = .ok (.aload_n 1, 1) := by decide +kernel
theorem dX9_stands_6 : decode cX9_stands 6 = .ok (.aload_n 0, 1) := by decide +kernel
theorem dX9_stands_7 : decode cX9_stands 7 = .ok (.getfield 19, 3) := by decide +kernel
theorem dX9_stands_10 : decode cX9_stands 10 = .ok (.aload_n 0, 1) := by decide +kernel
theorem dX9_stands_11 : decode cX9_stands 11 = .ok (.getfield 70, 3) := by decide +kernel
theorem dX9_stands_14 : decode cX9_stands 14 = .ok (.invokevirtual 174, 3) := by decide +kernel
theorem dX9_stands_17 : decode cX9_stands 17 = .ok (.aload_n 1, 1) := by decide +kernel
theorem dX9_stands_18 : decode cX9_stands 18 = .ok (.getfield 180, 3) := by decide +kernel
theorem dX9_stands_21 : decode cX9_stands 21 = .ok (.ifCond .eq 8, 3) := by decide +kernel
theorem dX9_stands_24 : decode cX9_stands 24 = .ok (.bipush (-4), 2) := by decide +kernel
theorem dX9_stands_26 : decode cX9_stands 26 = .ok (.goto 7, 3) := by decide +kernel
theorem dX9_stands_29 : decode cX9_stands 29 = .ok (.aload_n 1, 1) := by decide +kernel
theorem dX9_stands_30 : decode cX9_stands 30 = .ok (.getfield 184, 3) := by decide +kernel
theorem dX9_stands_33 : decode cX9_stands 33 = .ok (.ireturn, 1) := by decide +kernel
theorem dX9_solve_0 : decode cX9_solve 0 = .ok (.iload_n 1, 1) := by decide +kernel
theorem dX9_solve_1 : decode cX9_solve 1 = .ok (.ifCond .lt 8, 3) := by decide +kernel
theorem dX9_solve_4 : decode cX9_solve 4 = .ok (.iload_n 1, 1) := by decide +kernel
theorem dX9_solve_5 : decode cX9_solve 5 = .ok (.iconst 2, 1) := by decide +kernel
theorem dX9_solve_6 : decode cX9_solve 6 = .ok (.if_icmp .le 6, 3) := by decide +kernel
theorem dX9_solve_9 : decode cX9_solve 9 = .ok (.bipush (-2), 2) := by decide +kernel
theorem dX9_solve_11 : decode cX9_solve 11 = .ok (.ireturn, 1) := by decide +kernel
theorem dX9_solve_12 : decode cX9_solve 12 = .ok (.aload_n 0, 1) := by decide +kernel
theorem dX9_solve_13 : decode cX9_solve 13 = .ok (.invokevirtual 170, 3) := by decide +kernel
theorem dX9_solve_16 : decode cX9_solve 16 = .ok (.astore_n 2, 1) := by decide +kernel
theorem dX9_solve_17 : decode cX9_solve 17 = .ok (.aload_n 2, 1) := by decide +kernel
theorem dX9_solve_18 : decode cX9_solve 18 = .ok (.aload_n 0, 1) := by decide +kernel
theorem dX9_solve_19 : decode cX9_solve 19 = .ok (.getfield 19, 3) := by decide +kernel
theorem dX9_solve_22 : decode cX9_solve 22 = .ok (.aload_n 0, 1) := by decide +kernel
theorem dX9_solve_23 : decode cX9_solve 23 = .ok (.getfield 70, 3) := by decide +kernel
theorem dX9_solve_26 : decode cX9_solve 26 = .ok (.invokevirtual 174, 3) := by decide +kernel
theorem dX9_solve_29 : decode cX9_solve 29 = .ok (.aload_n 2, 1) := by decide +kernel
theorem dX9_solve_30 : decode cX9_solve 30 = .ok (.getfield 180, 3) := by decide +kernel
theorem dX9_solve_33 : decode cX9_solve 33 = .ok (.ifCond .eq 6, 3) := by decide +kernel
theorem dX9_solve_36 : decode cX9_solve 36 = .ok (.bipush (-4), 2) := by decide +kernel
theorem dX9_solve_38 : decode cX9_solve 38 = .ok (.ireturn, 1) := by decide +kernel
theorem dX9_solve_39 : decode cX9_solve 39 = .ok (.iload_n 1, 1) := by decide +kernel
theorem dX9_solve_40 : decode cX9_solve 40 = .ok (.iconst 2, 1) := by decide +kernel
theorem dX9_solve_41 : decode cX9_solve 41 = .ok (.if_icmp .ne 29, 3) := by decide +kernel
theorem dX9_solve_44 : decode cX9_solve 44 = .ok (.aload_n 2, 1) := by decide +kernel
theorem dX9_solve_45 : decode cX9_solve 45 = .ok (.getfield 187, 3) := by decide +kernel
theorem dX9_solve_48 : decode cX9_solve 48 = .ok (.bipush (-6), 2) := by decide +kernel
theorem dX9_solve_50 : decode cX9_solve 50 = .ok (.if_icmp .ne 8, 3) := by decide +kernel
theorem dX9_solve_53 : decode cX9_solve 53 = .ok (.bipush (-6), 2) := by decide +kernel
theorem dX9_solve_55 : decode cX9_solve 55 = .ok (.goto 14, 3) := by decide +kernel
theorem dX9_solve_58 : decode cX9_solve 58 = .ok (.aload_n 0, 1) := by decide +kernel
theorem dX9_solve_59 : decode cX9_solve 59 = .ok (.getfield 70, 3) := by decide +kernel
theorem dX9_solve_62 : decode cX9_solve 62 = .ok (.aload_n 2, 1) := by decide +kernel
theorem dX9_solve_63 : decode cX9_solve 63 = .ok (.getfield 187, 3) := by decide +kernel
theorem dX9_solve_66 : decode cX9_solve 66 = .ok (.invokestatic 158, 3) := by decide +kernel
theorem dX9_solve_69 : decode cX9_solve 69 = .ok (.ireturn, 1) := by decide +kernel
theorem dX9_solve_70 : decode cX9_solve 70 = .ok (.iload_n 1, 1) := by decide +kernel
theorem dX9_solve_71 : decode cX9_solve 71 = .ok (.ifCond .ne 13, 3) := by decide +kernel
theorem dX9_solve_74 : decode cX9_solve 74 = .ok (.aload_n 2, 1) := by decide +kernel
theorem dX9_solve_75 : decode cX9_solve 75 = .ok (.getfield 190, 3) := by decide +kernel
theorem dX9_solve_78 : decode cX9_solve 78 = .ok (.invokestatic 193, 3) := by decide +kernel
theorem dX9_solve_81 : decode cX9_solve 81 = .ok (.goto 10, 3) := by decide +kernel
theorem dX9_solve_84 : decode cX9_solve 84 = .ok (.aload_n 2, 1) := by decide +kernel
theorem dX9_solve_85 : decode cX9_solve 85 = .ok (.getfield 190, 3) := by decide +kernel
theorem dX9_solve_88 : decode cX9_solve 88 = .ok (.invokestatic 198, 3) := by decide +kernel
theorem dX9_solve_91 : decode cX9_solve 91 = .ok (.ireturn, 1) := by decide +kernel
theorem dX9_readySolver_0 : decode cX9_readySolver 0 = .ok (.aload_n 0, 1) := by decide +kernel
theorem dX9_readySolver_1 : decode cX9_readySolver 1 = .ok (.getfield 58, 3) := by decide +kernel
theorem dX9_readySolver_4 : decode cX9_readySolver 4 = .ok (.ifnonnull 14, 3) := by decide +kernel
theorem dX9_readySolver_7 : decode cX9_readySolver 7 = .ok (.aload_n 0, 1) := by decide +kernel
theorem dX9_readySolver_8 : decode cX9_readySolver 8 = .ok (.new 175, 3) := by decide +kernel
theorem dX9_readySolver_11 : decode cX9_readySolver 11 = .ok (.dup, 1) := by decide +kernel
theorem dX9_readySolver_12 : decode cX9_readySolver 12 = .ok (.invokespecial 201, 3) := by decide +kernel
theorem dX9_readySolver_15 : decode cX9_readySolver 15 = .ok (.putfield 58, 3) := by decide +kernel
theorem dX9_readySolver_18 : decode cX9_readySolver 18 = .ok (.aload_n 0, 1) := by decide +kernel
theorem dX9_readySolver_19 : decode cX9_readySolver 19 = .ok (.getfield 58, 3) := by decide +kernel
theorem dX9_readySolver_22 : decode cX9_readySolver 22 = .ok (.areturn, 1) := by decide +kernel
theorem dX9_keys_0 : decode cX9_keys 0 = .ok (.iload_n 1, 1) := by decide +kernel
theorem dX9_keys_1 : decode cX9_keys 1 = .ok (.iconst 1, 1) := by decide +kernel
theorem dX9_keys_2 : decode cX9_keys 2 = .ok (.if_icmp .eq 11, 3) := by decide +kernel
theorem dX9_keys_5 : decode cX9_keys 5 = .ok (.iload_n 1, 1) := by decide +kernel
theorem dX9_keys_6 : decode cX9_keys 6 = .ok (.iconst 2, 1) := by decide +kernel
theorem dX9_keys_7 : decode cX9_keys 7 = .ok (.if_icmp .eq 6, 3) := by decide +kernel
theorem dX9_keys_10 : decode cX9_keys 10 = .ok (.bipush (-2), 2) := by decide +kernel
theorem dX9_keys_12 : decode cX9_keys 12 = .ok (.ireturn, 1) := by decide +kernel
theorem dX9_keys_13 : decode cX9_keys 13 = .ok (.aload_n 0, 1) := by decide +kernel
theorem dX9_keys_14 : decode cX9_keys 14 = .ok (.getfield 40, 3) := by decide +kernel
theorem dX9_keys_17 : decode cX9_keys 17 = .ok (.aload_n 0, 1) := by decide +kernel
theorem dX9_keys_18 : decode cX9_keys 18 = .ok (.getfield 19, 3) := by decide +kernel
theorem dX9_keys_21 : decode cX9_keys 21 = .ok (.aload_n 0, 1) := by decide +kernel
theorem dX9_keys_22 : decode cX9_keys 22 = .ok (.getfield 70, 3) := by decide +kernel
theorem dX9_keys_25 : decode cX9_keys 25 = .ok (.iload_n 1, 1) := by decide +kernel
theorem dX9_keys_26 : decode cX9_keys 26 = .ok (.invokevirtual 202, 3) := by decide +kernel
theorem dX9_keys_29 : decode cX9_keys 29 = .ok (.iload_n 2, 1) := by decide +kernel
theorem dX9_keys_30 : decode cX9_keys 30 = .ok (.iconst (-1), 1) := by decide +kernel
theorem dX9_keys_31 : decode cX9_keys 31 = .ok (.if_icmp .ne 11, 3) := by decide +kernel
theorem dX9_keys_34 : decode cX9_keys 34 = .ok (.aload_n 0, 1) := by decide +kernel
theorem dX9_keys_35 : decode cX9_keys 35 = .ok (.getfield 40, 3) := by decide +kernel
theorem dX9_keys_38 : decode cX9_keys 38 = .ok (.getfield 206, 3) := by decide +kernel
theorem dX9_keys_41 : decode cX9_keys 41 = .ok (.ireturn, 1) := by decide +kernel
theorem dX9_keys_42 : decode cX9_keys 42 = .ok (.iload_n 2, 1) := by decide +kernel
theorem dX9_keys_43 : decode cX9_keys 43 = .ok (.ifCond .lt 26, 3) := by decide +kernel
theorem dX9_keys_46 : decode cX9_keys 46 = .ok (.iload_n 2, 1) := by decide +kernel
theorem dX9_keys_47 : decode cX9_keys 47 = .ok (.aload_n 0, 1) := by decide +kernel
theorem dX9_keys_48 : decode cX9_keys 48 = .ok (.getfield 40, 3) := by decide +kernel
theorem dX9_keys_51 : decode cX9_keys 51 = .ok (.getfield 206, 3) := by decide +kernel
theorem dX9_keys_54 : decode cX9_keys 54 = .ok (.if_icmp .ge 15, 3) := by decide +kernel
theorem dX9_keys_57 : decode cX9_keys 57 = .ok (.iload_n 2, 1) := by decide +kernel
theorem dX9_keys_58 : decode cX9_keys 58 = .ok (.aload_n 0, 1) := by decide +kernel
theorem dX9_keys_59 : decode cX9_keys 59 = .ok (.getfield 40, 3) := by decide +kernel
theorem dX9_keys_62 : decode cX9_keys 62 = .ok (.getfield 207, 3) := by decide +kernel
theorem dX9_keys_65 : decode cX9_keys 65 = .ok (.arraylength, 1) := by decide +kernel
theorem dX9_keys_66 : decode cX9_keys 66 = .ok (.if_icmp .lt 6, 3) := by decide +kernel
theorem dX9_keys_69 : decode cX9_keys 69 = .ok (.bipush (-6), 2) := by decide +kernel
theorem dX9_keys_71 : decode cX9_keys 71 = .ok (.ireturn, 1) := by decide +kernel
theorem dX9_keys_72 : decode cX9_keys 72 = .ok (.aload_n 0, 1) := by decide +kernel
theorem dX9_keys_73 : decode cX9_keys 73 = .ok (.getfield 70, 3) := by decide +kernel
theorem dX9_keys_76 : decode cX9_keys 76 = .ok (.aload_n 0, 1) := by decide +kernel
theorem dX9_keys_77 : decode cX9_keys 77 = .ok (.getfield 40, 3) := by decide +kernel
theorem dX9_keys_80 : decode cX9_keys 80 = .ok (.getfield 207, 3) := by decide +kernel
theorem dX9_keys_83 : decode cX9_keys 83 = .ok (.iload_n 2, 1) := by decide +kernel
theorem dX9_keys_84 : decode cX9_keys 84 = .ok (.iaload, 1) := by decide +kernel
theorem dX9_keys_85 : decode cX9_keys 85 = .ok (.invokestatic 158, 3) := by decide +kernel
theorem dX9_keys_88 : decode cX9_keys 88 = .ok (.ireturn, 1) := by decide +kernel
theorem dX9_even_0 : decode cX9_even 0 = .ok (.iload_n 1, 1) := by decide +kernel
theorem dX9_even_1 : decode cX9_even 1 = .ok (.ifCond .lt 20, 3) := by decide +kernel
theorem dX9_even_4 : decode cX9_even 4 = .ok (.iload_n 1, 1) := by decide +kernel
theorem dX9_even_5 : decode cX9_even 5 = .ok (.bipush 6, 2) := by decide +kernel
theorem dX9_even_7 : decode cX9_even 7 = .ok (.if_icmp .ge 14, 3) := by decide +kernel
theorem dX9_even_10 : decode cX9_even 10 = .ok (.aload_n 0, 1) := by decide +kernel
theorem dX9_even_11 : decode cX9_even 11 = .ok (.getfield 70, 3) := by decide +kernel
theorem dX9_even_14 : decode cX9_even 14 = .ok (.iload_n 1, 1) := by decide +kernel
theorem dX9_even_15 : decode cX9_even 15 = .ok (.invokestatic 118, 3) := by decide +kernel
theorem dX9_even_18 : decode cX9_even 18 = .ok (.ifCond .ne 5, 3) := by decide +kernel
theorem dX9_even_21 : decode cX9_even 21 = .ok (.iconst (-1), 1) := by decide +kernel
theorem dX9_even_22 : decode cX9_even 22 = .ok (.ireturn, 1) := by decide +kernel
theorem dX9_even_23 : decode cX9_even 23 = .ok (.aload_n 0, 1) := by decide +kernel
theorem dX9_even_24 : decode cX9_even 24 = .ok (.invokevirtual 170, 3) := by decide +kernel
theorem dX9_even_27 : decode cX9_even 27 = .ok (.astore_n 2, 1) := by decide +kernel
theorem dX9_even_28 : decode cX9_even 28 = .ok (.aload_n 0, 1) := by decide +kernel
theorem dX9_even_29 : decode cX9_even 29 = .ok (.getfield 70, 3) := by decide +kernel
theorem dX9_even_32 : decode cX9_even 32 = .ok (.iload_n 1, 1) := by decide +kernel
theorem dX9_even_33 : decode cX9_even 33 = .ok (.invokestatic 122, 3) := by decide +kernel
theorem dX9_even_36 : decode cX9_even 36 = .ok (.istore_n 3, 1) := by decide +kernel
theorem dX9_even_37 : decode cX9_even 37 = .ok (.iconst 0, 1) := by decide +kernel
theorem dX9_even_38 : decode cX9_even 38 = .ok (.istore 4, 2) := by decide +kernel
theorem dX9_even_40 : decode cX9_even 40 = .ok (.iconst 0, 1) := by decide +kernel
theorem dX9_even_41 : decode cX9_even 41 = .ok (.istore 5, 2) := by decide +kernel
theorem dX9_even_43 : decode cX9_even 43 = .ok (.iload 5, 2) := by decide +kernel
theorem dX9_even_45 : decode cX9_even 45 = .ok (.bipush 9, 2) := by decide +kernel
theorem dX9_even_47 : decode cX9_even 47 = .ok (.if_icmp .gt 54, 3) := by decide +kernel
theorem dX9_even_50 : decode cX9_even 50 = .ok (.aload_n 2, 1) := by decide +kernel
theorem dX9_even_51 : decode cX9_even 51 = .ok (.aload_n 0, 1) := by decide +kernel
theorem dX9_even_52 : decode cX9_even 52 = .ok (.getfield 19, 3) := by decide +kernel
theorem dX9_even_55 : decode cX9_even 55 = .ok (.aload_n 0, 1) := by decide +kernel
theorem dX9_even_56 : decode cX9_even 56 = .ok (.getfield 70, 3) := by decide +kernel
theorem dX9_even_59 : decode cX9_even 59 = .ok (.iload_n 1, 1) := by decide +kernel
theorem dX9_even_60 : decode cX9_even 60 = .ok (.iload_n 3, 1) := by decide +kernel
theorem dX9_even_61 : decode cX9_even 61 = .ok (.iload 5, 2) := by decide +kernel
theorem dX9_even_63 : decode cX9_even 63 = .ok (.invokestatic 66, 3) := by decide +kernel
theorem dX9_even_66 : decode cX9_even 66 = .ok (.invokevirtual 174, 3) := by decide +kernel
theorem dX9_even_69 : decode cX9_even 69 = .ok (.aload_n 2, 1) := by decide +kernel
theorem dX9_even_70 : decode cX9_even 70 = .ok (.getfield 180, 3) := by decide +kernel
theorem dX9_even_73 : decode cX9_even 73 = .ok (.ifCond .ne 22, 3) := by decide +kernel
theorem dX9_even_76 : decode cX9_even 76 = .ok (.aload_n 2, 1) := by decide +kernel
theorem dX9_even_77 : decode cX9_even 77 = .ok (.getfield 190, 3) := by decide +kernel
theorem dX9_even_80 : decode cX9_even 80 = .ok (.invokestatic 193, 3) := by decide +kernel
theorem dX9_even_83 : decode cX9_even 83 = .ok (.ifCond .ne 12, 3) := by decide +kernel
theorem dX9_even_86 : decode cX9_even 86 = .ok (.iload 4, 2) := by decide +kernel
theorem dX9_even_88 : decode cX9_even 88 = .ok (.iconst 1, 1) := by decide +kernel
theorem dX9_even_89 : decode cX9_even 89 = .ok (.iload 5, 2) := by decide +kernel
theorem dX9_even_91 : decode cX9_even 91 = .ok (.ishl, 1) := by decide +kernel
theorem dX9_even_92 : decode cX9_even 92 = .ok (.ior, 1) := by decide +kernel
theorem dX9_even_93 : decode cX9_even 93 = .ok (.istore 4, 2) := by decide +kernel
theorem dX9_even_95 : decode cX9_even 95 = .ok (.iinc 5 1, 3) := by decide +kernel
theorem dX9_even_98 : decode cX9_even 98 = .ok (.goto (-55), 3) := by decide +kernel
theorem dX9_even_101 : decode cX9_even 101 = .ok (.iload 4, 2) := by decide +kernel
theorem dX9_even_103 : decode cX9_even 103 = .ok (.ireturn, 1) := by decide +kernel
theorem dX9_book_0 : decode cX9_book 0 = .ok (.aload_n 0, 1) := by decide +kernel
theorem dX9_book_1 : decode cX9_book 1 = .ok (.invokevirtual 144, 3) := by decide +kernel
theorem dX9_book_4 : decode cX9_book 4 = .ok (.ifCond .ne 6, 3) := by decide +kernel
theorem dX9_book_7 : decode cX9_book 7 = .ok (.bipush (-5), 2) := by decide +kernel
theorem dX9_book_9 : decode cX9_book 9 = .ok (.ireturn, 1) := by decide +kernel
theorem dX9_book_10 : decode cX9_book 10 = .ok (.aload_n 0, 1) := by decide +kernel
theorem dX9_book_11 : decode cX9_book 11 = .ok (.getfield 26, 3) := by decide +kernel
theorem dX9_book_14 : decode cX9_book 14 = .ok (.getfield 210, 3) := by decide +kernel
theorem dX9_book_17 : decode cX9_book 17 = .ok (.bipush 8, 2) := by decide +kernel
theorem dX9_book_19 : decode cX9_book 19 = .ok (.if_icmp .lt 6, 3) := by decide +kernel
theorem dX9_book_22 : decode cX9_book 22 = .ok (.bipush (-4), 2) := by decide +kernel
theorem dX9_book_24 : decode cX9_book 24 = .ok (.ireturn, 1) := by decide +kernel
theorem dX9_book_25 : decode cX9_book 25 = .ok (.aload_n 0, 1) := by decide +kernel
theorem dX9_book_26 : decode cX9_book 26 = .ok (.getfield 26, 3) := by decide +kernel
theorem dX9_book_29 : decode cX9_book 29 = .ok (.aload_n 0, 1) := by decide +kernel
theorem dX9_book_30 : decode cX9_book 30 = .ok (.getfield 70, 3) := by decide +kernel
theorem dX9_book_33 : decode cX9_book 33 = .ok (.aload_n 0, 1) := by decide +kernel
theorem dX9_book_34 : decode cX9_book 34 = .ok (.getfield 12, 3) := by decide +kernel
theorem dX9_book_37 : decode cX9_book 37 = .ok (.aload_n 0, 1) := by decide +kernel
theorem dX9_book_38 : decode cX9_book 38 = .ok (.getfield 19, 3) := by decide +kernel
theorem dX9_book_41 : decode cX9_book 41 = .ok (.aload_n 0, 1) := by decide +kernel
theorem dX9_book_42 : decode cX9_book 42 = .ok (.getfield 33, 3) := by decide +kernel
theorem dX9_book_45 : decode cX9_book 45 = .ok (.getfield 151, 3) := by decide +kernel
theorem dX9_book_48 : decode cX9_book 48 = .ok (.invokevirtual 131, 3) := by decide +kernel
theorem dX9_book_51 : decode cX9_book 51 = .ok (.invokevirtual 211, 3) := by decide +kernel
theorem dX9_book_54 : decode cX9_book 54 = .ok (.istore_n 1, 1) := by decide +kernel
theorem dX9_book_55 : decode cX9_book 55 = .ok (.aload_n 0, 1) := by decide +kernel
theorem dX9_book_56 : decode cX9_book 56 = .ok (.getfield 12, 3) := by decide +kernel
theorem dX9_book_59 : decode cX9_book 59 = .ok (.invokevirtual 82, 3) := by decide +kernel
theorem dX9_book_62 : decode cX9_book 62 = .ok (.iload_n 1, 1) := by decide +kernel
theorem dX9_book_63 : decode cX9_book 63 = .ok (.ireturn, 1) := by decide +kernel
theorem dX9_booked_0 : decode cX9_booked 0 = .ok (.iload_n 1, 1) := by decide +kernel
theorem dX9_booked_1 : decode cX9_booked 1 = .ok (.ifCond .lt 14, 3) := by decide +kernel
theorem dX9_booked_4 : decode cX9_booked 4 = .ok (.iload_n 1, 1) := by decide +kernel
theorem dX9_booked_5 : decode cX9_booked 5 = .ok (.aload_n 0, 1) := by decide +kernel
theorem dX9_booked_6 : decode cX9_booked 6 = .ok (.getfield 26, 3) := by decide +kernel
theorem dX9_booked_9 : decode cX9_booked 9 = .ok (.getfield 210, 3) := by decide +kernel
theorem dX9_booked_12 : decode cX9_booked 12 = .ok (.if_icmp .lt 5, 3) := by decide +kernel
theorem dX9_booked_15 : decode cX9_booked 15 = .ok (.iconst (-1), 1) := by decide +kernel
theorem dX9_booked_16 : decode cX9_booked 16 = .ok (.ireturn, 1) := by decide +kernel
theorem dX9_booked_17 : decode cX9_booked 17 = .ok (.iload_n 2, 1) := by decide +kernel
theorem dX9_booked_18 : decode cX9_booked 18 = .ok (.ifCond .ne 12, 3) := by decide +kernel
theorem dX9_booked_21 : decode cX9_booked 21 = .ok (.aload_n 0, 1) := by decide +kernel
theorem dX9_booked_22 : decode cX9_booked 22 = .ok (.getfield 26, 3) := by decide +kernel
theorem dX9_booked_25 : decode cX9_booked 25 = .ok (.iload_n 1, 1) := by decide +kernel
theorem dX9_booked_26 : decode cX9_booked 26 = .ok (.invokevirtual 214, 3) := by decide +kernel
theorem dX9_booked_29 : decode cX9_booked 29 = .ok (.ireturn, 1) := by decide +kernel
theorem dX9_booked_30 : decode cX9_booked 30 = .ok (.iload_n 2, 1) := by decide +kernel
theorem dX9_booked_31 : decode cX9_booked 31 = .ok (.iconst 1, 1) := by decide +kernel
theorem dX9_booked_32 : decode cX9_booked 32 = .ok (.if_icmp .ne 12, 3) := by decide +kernel
theorem dX9_booked_35 : decode cX9_booked 35 = .ok (.aload_n 0, 1) := by decide +kernel
theorem dX9_booked_36 : decode cX9_booked 36 = .ok (.getfield 26, 3) := by decide +kernel
theorem dX9_booked_39 : decode cX9_booked 39 = .ok (.iload_n 1, 1) := by decide +kernel
theorem dX9_booked_40 : decode cX9_booked 40 = .ok (.invokevirtual 217, 3) := by decide +kernel
theorem dX9_booked_43 : decode cX9_booked 43 = .ok (.ireturn, 1) := by decide +kernel
theorem dX9_booked_44 : decode cX9_booked 44 = .ok (.iload_n 2, 1) := by decide +kernel
theorem dX9_booked_45 : decode cX9_booked 45 = .ok (.bipush 10, 2) := by decide +kernel
theorem dX9_booked_47 : decode cX9_booked 47 = .ok (.if_icmp .lt 9, 3) := by decide +kernel
theorem dX9_booked_50 : decode cX9_booked 50 = .ok (.iload_n 2, 1) := by decide +kernel
theorem dX9_booked_51 : decode cX9_booked 51 = .ok (.bipush 22, 2) := by decide +kernel
theorem dX9_booked_53 : decode cX9_booked 53 = .ok (.if_icmp .lt 8, 3) := by decide +kernel
theorem dX9_booked_56 : decode cX9_booked 56 = .ok (.bipush (-2), 2) := by decide +kernel
theorem dX9_booked_58 : decode cX9_booked 58 = .ok (.goto 15, 3) := by decide +kernel
theorem dX9_booked_61 : decode cX9_booked 61 = .ok (.aload_n 0, 1) := by decide +kernel
theorem dX9_booked_62 : decode cX9_booked 62 = .ok (.getfield 26, 3) := by decide +kernel
theorem dX9_booked_65 : decode cX9_booked 65 = .ok (.iload_n 1, 1) := by decide +kernel
theorem dX9_booked_66 : decode cX9_booked 66 = .ok (.iload_n 2, 1) := by decide +kernel
theorem dX9_booked_67 : decode cX9_booked 67 = .ok (.bipush 10, 2) := by decide +kernel
theorem dX9_booked_69 : decode cX9_booked 69 = .ok (.isub, 1) := by decide +kernel
theorem dX9_booked_70 : decode cX9_booked 70 = .ok (.invokevirtual 220, 3) := by decide +kernel
theorem dX9_booked_73 : decode cX9_booked 73 = .ok (.ireturn, 1) := by decide +kernel
theorem dX9_next_0 : decode cX9_next 0 = .ok (.iload_n 1, 1) := by decide +kernel
theorem dX9_next_1 : decode cX9_next 1 = .ok (.ifCond .lt 8, 3) := by decide +kernel
theorem dX9_next_4 : decode cX9_next 4 = .ok (.iload_n 1, 1) := by decide +kernel
theorem dX9_next_5 : decode cX9_next 5 = .ok (.iconst 4, 1) := by decide +kernel
theorem dX9_next_6 : decode cX9_next 6 = .ok (.if_icmp .le 6, 3) := by decide +kernel
theorem dX9_next_9 : decode cX9_next 9 = .ok (.bipush (-2), 2) := by decide +kernel
theorem dX9_next_11 : decode cX9_next 11 = .ok (.ireturn, 1) := by decide +kernel
theorem dX9_next_12 : decode cX9_next 12 = .ok (.aload_n 0, 1) := by decide +kernel
theorem dX9_next_13 : decode cX9_next 13 = .ok (.getfield 12, 3) := by decide +kernel
theorem dX9_next_16 : decode cX9_next 16 = .ok (.invokevirtual 89, 3) := by decide +kernel
theorem dX9_next_19 : decode cX9_next 19 = .ok (.bipush (-6), 2) := by decide +kernel
theorem dX9_next_21 : decode cX9_next 21 = .ok (.if_icmp .eq 6, 3) := by decide +kernel
theorem dX9_next_24 : decode cX9_next 24 = .ok (.bipush (-5), 2) := by decide +kernel
theorem dX9_next_26 : decode cX9_next 26 = .ok (.ireturn, 1) := by decide +kernel
theorem dX9_next_27 : decode cX9_next 27 = .ok (.iload_n 1, 1) := by decide +kernel
theorem dX9_next_28 : decode cX9_next 28 = .ok (.ifCond .ne 19, 3) := by decide +kernel
theorem dX9_next_31 : decode cX9_next 31 = .ok (.aload_n 0, 1) := by decide +kernel
theorem dX9_next_32 : decode cX9_next 32 = .ok (.getfield 26, 3) := by decide +kernel
theorem dX9_next_35 : decode cX9_next 35 = .ok (.aload_n 0, 1) := by decide +kernel
theorem dX9_next_36 : decode cX9_next 36 = .ok (.getfield 70, 3) := by decide +kernel
theorem dX9_next_39 : decode cX9_next 39 = .ok (.aload_n 0, 1) := by decide +kernel
theorem dX9_next_40 : decode cX9_next 40 = .ok (.getfield 12, 3) := by decide +kernel
theorem dX9_next_43 : decode cX9_next 43 = .ok (.invokevirtual 224, 3) := by decide +kernel
theorem dX9_next_46 : decode cX9_next 46 = .ok (.ireturn, 1) := by decide +kernel
theorem dX9_next_47 : decode cX9_next 47 = .ok (.iload_n 1, 1) := by decide +kernel
theorem dX9_next_48 : decode cX9_next 48 = .ok (.iconst 2, 1) := by decide +kernel
theorem dX9_next_49 : decode cX9_next 49 = .ok (.if_icmp .gt 20, 3) := by decide +kernel
theorem dX9_next_52 : decode cX9_next 52 = .ok (.aload_n 0, 1) := by decide +kernel
theorem dX9_next_53 : decode cX9_next 53 = .ok (.getfield 26, 3) := by decide +kernel
theorem dX9_next_56 : decode cX9_next 56 = .ok (.aload_n 0, 1) := by decide +kernel
theorem dX9_next_57 : decode cX9_next 57 = .ok (.getfield 70, 3) := by decide +kernel
theorem dX9_next_60 : decode cX9_next 60 = .ok (.aload_n 0, 1) := by decide +kernel
theorem dX9_next_61 : decode cX9_next 61 = .ok (.getfield 12, 3) := by decide +kernel
theorem dX9_next_64 : decode cX9_next 64 = .ok (.iload_n 1, 1) := by decide +kernel
theorem dX9_next_65 : decode cX9_next 65 = .ok (.invokevirtual 228, 3) := by decide +kernel
theorem dX9_next_68 : decode cX9_next 68 = .ok (.ireturn, 1) := by decide +kernel
theorem dX9_next_69 : decode cX9_next 69 = .ok (.aload_n 0, 1) := by decide +kernel
theorem dX9_next_70 : decode cX9_next 70 = .ok (.getfield 26, 3) := by decide +kernel
theorem dX9_next_73 : decode cX9_next 73 = .ok (.aload_n 0, 1) := by decide +kernel
theorem dX9_next_74 : decode cX9_next 74 = .ok (.getfield 70, 3) := by decide +kernel
theorem dX9_next_77 : decode cX9_next 77 = .ok (.aload_n 0, 1) := by decide +kernel
theorem dX9_next_78 : decode cX9_next 78 = .ok (.getfield 12, 3) := by decide +kernel
theorem dX9_next_81 : decode cX9_next 81 = .ok (.invokevirtual 231, 3) := by decide +kernel
theorem dX9_next_84 : decode cX9_next 84 = .ok (.istore_n 2, 1) := by decide +kernel
theorem dX9_next_85 : decode cX9_next 85 = .ok (.iload_n 1, 1) := by decide +kernel
theorem dX9_next_86 : decode cX9_next 86 = .ok (.iconst 3, 1) := by decide +kernel
theorem dX9_next_87 : decode cX9_next 87 = .ok (.if_icmp .ne 7, 3) := by decide +kernel
theorem dX9_next_90 : decode cX9_next 90 = .ok (.iload_n 2, 1) := by decide +kernel
theorem dX9_next_91 : decode cX9_next 91 = .ok (.goto 19, 3) := by decide +kernel
theorem dX9_next_94 : decode cX9_next 94 = .ok (.aload_n 0, 1) := by decide +kernel
theorem dX9_next_95 : decode cX9_next 95 = .ok (.getfield 26, 3) := by decide +kernel
theorem dX9_next_98 : decode cX9_next 98 = .ok (.aload_n 0, 1) := by decide +kernel
theorem dX9_next_99 : decode cX9_next 99 = .ok (.getfield 70, 3) := by decide +kernel
theorem dX9_next_102 : decode cX9_next 102 = .ok (.aload_n 0, 1) := by decide +kernel
theorem dX9_next_103 : decode cX9_next 103 = .ok (.getfield 12, 3) := by decide +kernel
theorem dX9_next_106 : decode cX9_next 106 = .ok (.iload_n 2, 1) := by decide +kernel
theorem dX9_next_107 : decode cX9_next 107 = .ok (.invokevirtual 234, 3) := by decide +kernel
theorem dX9_next_110 : decode cX9_next 110 = .ok (.ireturn, 1) := by decide +kernel
theorem dX9_drawn_0 : decode cX9_drawn 0 = .ok (.iload_n 1, 1) := by decide +kernel
theorem dX9_drawn_1 : decode cX9_drawn 1 = .ok (.ifCond .lt 19, 3) := by decide +kernel
theorem dX9_drawn_4 : decode cX9_drawn 4 = .ok (.iload_n 1, 1) := by decide +kernel
theorem dX9_drawn_5 : decode cX9_drawn 5 = .ok (.sipush 9999, 3) := by decide +kernel
theorem dX9_drawn_8 : decode cX9_drawn 8 = .ok (.if_icmp .gt 12, 3) := by decide +kernel
theorem dX9_drawn_11 : decode cX9_drawn 11 = .ok (.iload_n 2, 1) := by decide +kernel
theorem dX9_drawn_12 : decode cX9_drawn 12 = .ok (.ifCond .eq 11, 3) := by decide +kernel
theorem dX9_drawn_15 : decode cX9_drawn 15 = .ok (.iload_n 2, 1) := by decide +kernel
theorem dX9_drawn_16 : decode cX9_drawn 16 = .ok (.iconst 1, 1) := by decide +kernel
theorem dX9_drawn_17 : decode cX9_drawn 17 = .ok (.if_icmp .eq 6, 3) := by decide +kernel
theorem dX9_drawn_20 : decode cX9_drawn 20 = .ok (.bipush (-2), 2) := by decide +kernel
theorem dX9_drawn_22 : decode cX9_drawn 22 = .ok (.ireturn, 1) := by decide +kernel
theorem dX9_drawn_23 : decode cX9_drawn 23 = .ok (.aload_n 0, 1) := by decide +kernel
theorem dX9_drawn_24 : decode cX9_drawn 24 = .ok (.getfield 70, 3) := by decide +kernel
theorem dX9_drawn_27 : decode cX9_drawn 27 = .ok (.lstore_n 3, 1) := by decide +kernel
theorem dX9_drawn_28 : decode cX9_drawn 28 = .ok (.iload_n 1, 1) := by decide +kernel
theorem dX9_drawn_29 : decode cX9_drawn 29 = .ok (.istore 5, 2) := by decide +kernel
theorem dX9_drawn_31 : decode cX9_drawn 31 = .ok (.iconst 0, 1) := by decide +kernel
theorem dX9_drawn_32 : decode cX9_drawn 32 = .ok (.istore 6, 2) := by decide +kernel
theorem dX9_drawn_34 : decode cX9_drawn 34 = .ok (.iconst 0, 1) := by decide +kernel
theorem dX9_drawn_35 : decode cX9_drawn 35 = .ok (.istore 7, 2) := by decide +kernel
theorem dX9_drawn_37 : decode cX9_drawn 37 = .ok (.iload 7, 2) := by decide +kernel
theorem dX9_drawn_39 : decode cX9_drawn 39 = .ok (.bipush 60, 2) := by decide +kernel
theorem dX9_drawn_41 : decode cX9_drawn 41 = .ok (.if_icmp .ge 85, 3) := by decide +kernel
theorem dX9_drawn_44 : decode cX9_drawn 44 = .ok (.aload_n 0, 1) := by decide +kernel
theorem dX9_drawn_45 : decode cX9_drawn 45 = .ok (.getfield 19, 3) := by decide +kernel
theorem dX9_drawn_48 : decode cX9_drawn 48 = .ok (.lload_n 3, 1) := by decide +kernel
theorem dX9_drawn_49 : decode cX9_drawn 49 = .ok (.aload_n 0, 1) := by decide +kernel
theorem dX9_drawn_50 : decode cX9_drawn 50 = .ok (.getfield 54, 3) := by decide +kernel
theorem dX9_drawn_53 : decode cX9_drawn 53 = .ok (.iconst 0, 1) := by decide +kernel
theorem dX9_drawn_54 : decode cX9_drawn 54 = .ok (.invokevirtual 154, 3) := by decide +kernel
theorem dX9_drawn_57 : decode cX9_drawn 57 = .ok (.istore 8, 2) := by decide +kernel
theorem dX9_drawn_59 : decode cX9_drawn 59 = .ok (.iload 8, 2) := by decide +kernel
theorem dX9_drawn_61 : decode cX9_drawn 61 = .ok (.ifCond .gt 6, 3) := by decide +kernel
theorem dX9_drawn_64 : decode cX9_drawn 64 = .ok (.goto 62, 3) := by decide +kernel
theorem dX9_drawn_67 : decode cX9_drawn 67 = .ok (.bipush 75, 2) := by decide +kernel
theorem dX9_drawn_69 : decode cX9_drawn 69 = .ok (.iload 5, 2) := by decide +kernel
theorem dX9_drawn_71 : decode cX9_drawn 71 = .ok (.imul, 1) := by decide +kernel
theorem dX9_drawn_72 : decode cX9_drawn 72 = .ok (.bipush 74, 2) := by decide +kernel
theorem dX9_drawn_74 : decode cX9_drawn 74 = .ok (.iadd, 1) := by decide +kernel
theorem dX9_drawn_75 : decode cX9_drawn 75 = .ok (.ldc 237, 2) := by decide +kernel
theorem dX9_drawn_77 : decode cX9_drawn 77 = .ok (.irem, 1) := by decide +kernel
theorem dX9_drawn_78 : decode cX9_drawn 78 = .ok (.istore 5, 2) := by decide +kernel
theorem dX9_drawn_80 : decode cX9_drawn 80 = .ok (.iload 5, 2) := by decide +kernel
theorem dX9_drawn_82 : decode cX9_drawn 82 = .ok (.iload 8, 2) := by decide +kernel
theorem dX9_drawn_84 : decode cX9_drawn 84 = .ok (.irem, 1) := by decide +kernel
theorem dX9_drawn_85 : decode cX9_drawn 85 = .ok (.istore 9, 2) := by decide +kernel
theorem dX9_drawn_87 : decode cX9_drawn 87 = .ok (.iload 9, 2) := by decide +kernel
theorem dX9_drawn_89 : decode cX9_drawn 89 = .ok (.ifCond .lt 37, 3) := by decide +kernel
theorem dX9_drawn_92 : decode cX9_drawn 92 = .ok (.iload 9, 2) := by decide +kernel
theorem dX9_drawn_94 : decode cX9_drawn 94 = .ok (.aload_n 0, 1) := by decide +kernel
theorem dX9_drawn_95 : decode cX9_drawn 95 = .ok (.getfield 54, 3) := by decide +kernel
theorem dX9_drawn_98 : decode cX9_drawn 98 = .ok (.arraylength, 1) := by decide +kernel
theorem dX9_drawn_99 : decode cX9_drawn 99 = .ok (.if_icmp .lt 6, 3) := by decide +kernel
theorem dX9_drawn_102 : decode cX9_drawn 102 = .ok (.goto 24, 3) := by decide +kernel
theorem dX9_drawn_105 : decode cX9_drawn 105 = .ok (.lload_n 3, 1) := by decide +kernel
theorem dX9_drawn_106 : decode cX9_drawn 106 = .ok (.aload_n 0, 1) := by decide +kernel
theorem dX9_drawn_107 : decode cX9_drawn 107 = .ok (.getfield 54, 3) := by decide +kernel
theorem dX9_drawn_110 : decode cX9_drawn 110 = .ok (.iload 9, 2) := by decide +kernel
theorem dX9_drawn_112 : decode cX9_drawn 112 = .ok (.iaload, 1) := by decide +kernel
theorem dX9_drawn_113 : decode cX9_drawn 113 = .ok (.invokestatic 238, 3) := by decide +kernel
theorem dX9_drawn_116 : decode cX9_drawn 116 = .ok (.lstore_n 3, 1) := by decide +kernel
theorem dX9_drawn_117 : decode cX9_drawn 117 = .ok (.iinc 6 1, 3) := by decide +kernel
theorem dX9_drawn_120 : decode cX9_drawn 120 = .ok (.iinc 7 1, 3) := by decide +kernel
theorem dX9_drawn_123 : decode cX9_drawn 123 = .ok (.goto (-86), 3) := by decide +kernel
theorem dX9_drawn_126 : decode cX9_drawn 126 = .ok (.iload_n 2, 1) := by decide +kernel
theorem dX9_drawn_127 : decode cX9_drawn 127 = .ok (.ifCond .ne 14, 3) := by decide +kernel
theorem dX9_drawn_130 : decode cX9_drawn 130 = .ok (.aload_n 0, 1) := by decide +kernel
theorem dX9_drawn_131 : decode cX9_drawn 131 = .ok (.getfield 19, 3) := by decide +kernel
theorem dX9_drawn_134 : decode cX9_drawn 134 = .ok (.lload_n 3, 1) := by decide +kernel
theorem dX9_drawn_135 : decode cX9_drawn 135 = .ok (.invokevirtual 131, 3) := by decide +kernel
theorem dX9_drawn_138 : decode cX9_drawn 138 = .ok (.goto 5, 3) := by decide +kernel
theorem dX9_drawn_141 : decode cX9_drawn 141 = .ok (.iload 6, 2) := by decide +kernel
theorem dX9_drawn_143 : decode cX9_drawn 143 = .ok (.ireturn, 1) := by decide +kernel
theorem dX9_mirror_0 : decode cX9_mirror 0 = .ok (.iload_n 1, 1) := by decide +kernel
theorem dX9_mirror_1 : decode cX9_mirror 1 = .ok (.iconst 1, 1) := by decide +kernel
theorem dX9_mirror_2 : decode cX9_mirror 2 = .ok (.if_icmp .lt 8, 3) := by decide +kernel
theorem dX9_mirror_5 : decode cX9_mirror 5 = .ok (.iload_n 1, 1) := by decide +kernel
theorem dX9_mirror_6 : decode cX9_mirror 6 = .ok (.iconst 3, 1) := by decide +kernel
theorem dX9_mirror_7 : decode cX9_mirror 7 = .ok (.if_icmp .le 6, 3) := by decide +kernel
theorem dX9_mirror_10 : decode cX9_mirror 10 = .ok (.bipush (-2), 2) := by decide +kernel
theorem dX9_mirror_12 : decode cX9_mirror 12 = .ok (.ireturn, 1) := by decide +kernel
theorem dX9_mirror_13 : decode cX9_mirror 13 = .ok (.aload_n 0, 1) := by decide +kernel
theorem dX9_mirror_14 : decode cX9_mirror 14 = .ok (.aload_n 0, 1) := by decide +kernel
theorem dX9_mirror_15 : decode cX9_mirror 15 = .ok (.getfield 70, 3) := by decide +kernel
theorem dX9_mirror_18 : decode cX9_mirror 18 = .ok (.iload_n 1, 1) := by decide +kernel
theorem dX9_mirror_19 : decode cX9_mirror 19 = .ok (.invokestatic 242, 3) := by decide +kernel
theorem dX9_mirror_22 : decode cX9_mirror 22 = .ok (.putfield 70, 3) := by decide +kernel
theorem dX9_mirror_25 : decode cX9_mirror 25 = .ok (.aload_n 0, 1) := by decide +kernel
theorem dX9_mirror_26 : decode cX9_mirror 26 = .ok (.getfield 70, 3) := by decide +kernel
theorem dX9_mirror_29 : decode cX9_mirror 29 = .ok (.invokestatic 96, 3) := by decide +kernel
theorem dX9_mirror_32 : decode cX9_mirror 32 = .ok (.ireturn, 1) := by decide +kernel
theorem dX9_like_0 : decode cX9_like 0 = .ok (.aload_n 0, 1) := by decide +kernel
theorem dX9_like_1 : decode cX9_like 1 = .ok (.getfield 12, 3) := by decide +kernel
theorem dX9_like_4 : decode cX9_like 4 = .ok (.invokevirtual 85, 3) := by decide +kernel
theorem dX9_like_7 : decode cX9_like 7 = .ok (.bipush (-6), 2) := by decide +kernel
theorem dX9_like_9 : decode cX9_like 9 = .ok (.if_icmp .eq 6, 3) := by decide +kernel
theorem dX9_like_12 : decode cX9_like 12 = .ok (.bipush (-5), 2) := by decide +kernel
theorem dX9_like_14 : decode cX9_like 14 = .ok (.ireturn, 1) := by decide +kernel
theorem dX9_like_15 : decode cX9_like 15 = .ok (.aload_n 0, 1) := by decide +kernel
theorem dX9_like_16 : decode cX9_like 16 = .ok (.getfield 12, 3) := by decide +kernel
theorem dX9_like_19 : decode cX9_like 19 = .ok (.invokevirtual 92, 3) := by decide +kernel
theorem dX9_like_22 : decode cX9_like 22 = .ok (.lstore_n 1, 1) := by decide +kernel
theorem dX9_like_23 : decode cX9_like 23 = .ok (.iconst 0, 1) := by decide +kernel
theorem dX9_like_24 : decode cX9_like 24 = .ok (.istore_n 3, 1) := by decide +kernel
theorem dX9_like_25 : decode cX9_like 25 = .ok (.iconst 0, 1) := by decide +kernel
theorem dX9_like_26 : decode cX9_like 26 = .ok (.istore 4, 2) := by decide +kernel
theorem dX9_like_28 : decode cX9_like 28 = .ok (.iload 4, 2) := by decide +kernel
theorem dX9_like_30 : decode cX9_like 30 = .ok (.iconst 4, 1) := by decide +kernel
theorem dX9_like_31 : decode cX9_like 31 = .ok (.if_icmp .ge 30, 3) := by decide +kernel
theorem dX9_like_34 : decode cX9_like 34 = .ok (.aload_n 0, 1) := by decide +kernel
theorem dX9_like_35 : decode cX9_like 35 = .ok (.getfield 70, 3) := by decide +kernel
theorem dX9_like_38 : decode cX9_like 38 = .ok (.iload 4, 2) := by decide +kernel
theorem dX9_like_40 : decode cX9_like 40 = .ok (.invokestatic 242, 3) := by decide +kernel
theorem dX9_like_43 : decode cX9_like 43 = .ok (.lload_n 1, 1) := by decide +kernel
theorem dX9_like_44 : decode cX9_like 44 = .ok (.lcmp, 1) := by decide +kernel
theorem dX9_like_45 : decode cX9_like 45 = .ok (.ifCond .ne 10, 3) := by decide +kernel
theorem dX9_like_48 : decode cX9_like 48 = .ok (.iload_n 3, 1) := by decide +kernel
theorem dX9_like_49 : decode cX9_like 49 = .ok (.iconst 1, 1) := by decide +kernel
theorem dX9_like_50 : decode cX9_like 50 = .ok (.iload 4, 2) := by decide +kernel
theorem dX9_like_52 : decode cX9_like 52 = .ok (.ishl, 1) := by decide +kernel
theorem dX9_like_53 : decode cX9_like 53 = .ok (.ior, 1) := by decide +kernel
theorem dX9_like_54 : decode cX9_like 54 = .ok (.istore_n 3, 1) := by decide +kernel
theorem dX9_like_55 : decode cX9_like 55 = .ok (.iinc 4 1, 3) := by decide +kernel
theorem dX9_like_58 : decode cX9_like 58 = .ok (.goto (-30), 3) := by decide +kernel
theorem dX9_like_61 : decode cX9_like 61 = .ok (.iload_n 3, 1) := by decide +kernel
theorem dX9_like_62 : decode cX9_like 62 = .ok (.ireturn, 1) := by decide +kernel
theorem dX9_image_0 : decode cX9_image 0 = .ok (.iload_n 1, 1) := by decide +kernel
theorem dX9_image_1 : decode cX9_image 1 = .ok (.ifCond .eq 11, 3) := by decide +kernel
theorem dX9_image_4 : decode cX9_image 4 = .ok (.iload_n 1, 1) := by decide +kernel
theorem dX9_image_5 : decode cX9_image 5 = .ok (.iconst 1, 1) := by decide +kernel
theorem dX9_image_6 : decode cX9_image 6 = .ok (.if_icmp .eq 6, 3) := by decide +kernel
theorem dX9_image_9 : decode cX9_image 9 = .ok (.bipush (-2), 2) := by decide +kernel
theorem dX9_image_11 : decode cX9_image 11 = .ok (.ireturn, 1) := by decide +kernel
theorem dX9_image_12 : decode cX9_image 12 = .ok (.aload_n 0, 1) := by decide +kernel
theorem dX9_image_13 : decode cX9_image 13 = .ok (.iload_n 1, 1) := by decide +kernel
theorem dX9_image_14 : decode cX9_image 14 = .ok (.invokevirtual 245, 3) := by decide +kernel
theorem dX9_image_17 : decode cX9_image 17 = .ok (.astore_n 2, 1) := by decide +kernel
theorem dX9_image_18 : decode cX9_image 18 = .ok (.aload_n 2, 1) := by decide +kernel
theorem dX9_image_19 : decode cX9_image 19 = .ok (.iconst 1, 1) := by decide +kernel
theorem dX9_image_20 : decode cX9_image 20 = .ok (.putfield 249, 3) := by decide +kernel
theorem dX9_image_23 : decode cX9_image 23 = .ok (.aload_n 2, 1) := by decide +kernel
theorem dX9_image_24 : decode cX9_image 24 = .ok (.aload_n 0, 1) := by decide +kernel
theorem dX9_image_25 : decode cX9_image 25 = .ok (.getfield 70, 3) := by decide +kernel
theorem dX9_image_28 : decode cX9_image 28 = .ok (.putfield 252, 3) := by decide +kernel
theorem dX9_image_31 : decode cX9_image 31 = .ok (.aload_n 2, 1) := by decide +kernel
theorem dX9_image_32 : decode cX9_image 32 = .ok (.aload_n 0, 1) := by decide +kernel
theorem dX9_image_33 : decode cX9_image 33 = .ok (.getfield 19, 3) := by decide +kernel
theorem dX9_image_36 : decode cX9_image 36 = .ok (.invokevirtual 100, 3) := by decide +kernel
theorem dX9_image_39 : decode cX9_image 39 = .ok (.putfield 253, 3) := by decide +kernel
theorem dX9_image_42 : decode cX9_image 42 = .ok (.aload_n 2, 1) := by decide +kernel
theorem dX9_image_43 : decode cX9_image 43 = .ok (.getfield 256, 3) := by decide +kernel
theorem dX9_image_46 : decode cX9_image 46 = .ok (.aload_n 0, 1) := by decide +kernel
theorem dX9_image_47 : decode cX9_image 47 = .ok (.getfield 26, 3) := by decide +kernel
theorem dX9_image_50 : decode cX9_image 50 = .ok (.invokevirtual 257, 3) := by decide +kernel
theorem dX9_image_53 : decode cX9_image 53 = .ok (.iconst 1, 1) := by decide +kernel
theorem dX9_image_54 : decode cX9_image 54 = .ok (.ireturn, 1) := by decide +kernel
theorem dX9_restore_0 : decode cX9_restore 0 = .ok (.iload_n 1, 1) := by decide +kernel
theorem dX9_restore_1 : decode cX9_restore 1 = .ok (.ifCond .eq 11, 3) := by decide +kernel
theorem dX9_restore_4 : decode cX9_restore 4 = .ok (.iload_n 1, 1) := by decide +kernel
theorem dX9_restore_5 : decode cX9_restore 5 = .ok (.iconst 1, 1) := by decide +kernel
theorem dX9_restore_6 : decode cX9_restore 6 = .ok (.if_icmp .eq 6, 3) := by decide +kernel
theorem dX9_restore_9 : decode cX9_restore 9 = .ok (.bipush (-2), 2) := by decide +kernel
theorem dX9_restore_11 : decode cX9_restore 11 = .ok (.ireturn, 1) := by decide +kernel
theorem dX9_restore_12 : decode cX9_restore 12 = .ok (.aload_n 0, 1) := by decide +kernel
theorem dX9_restore_13 : decode cX9_restore 13 = .ok (.iload_n 1, 1) := by decide +kernel
theorem dX9_restore_14 : decode cX9_restore 14 = .ok (.invokevirtual 245, 3) := by decide +kernel
theorem dX9_restore_17 : decode cX9_restore 17 = .ok (.astore_n 2, 1) := by decide +kernel
theorem dX9_restore_18 : decode cX9_restore 18 = .ok (.aload_n 2, 1) := by decide +kernel
theorem dX9_restore_19 : decode cX9_restore 19 = .ok (.getfield 249, 3) := by decide +kernel
theorem dX9_restore_22 : decode cX9_restore 22 = .ok (.ifCond .ne 6, 3) := by decide +kernel
theorem dX9_restore_25 : decode cX9_restore 25 = .ok (.bipush (-3), 2) := by decide +kernel
theorem dX9_restore_27 : decode cX9_restore 27 = .ok (.ireturn, 1) := by decide +kernel
theorem dX9_restore_28 : decode cX9_restore 28 = .ok (.aload_n 0, 1) := by decide +kernel
theorem dX9_restore_29 : decode cX9_restore 29 = .ok (.aload_n 2, 1) := by decide +kernel
theorem dX9_restore_30 : decode cX9_restore 30 = .ok (.getfield 252, 3) := by decide +kernel
theorem dX9_restore_33 : decode cX9_restore 33 = .ok (.putfield 70, 3) := by decide +kernel
theorem dX9_restore_36 : decode cX9_restore 36 = .ok (.aload_n 0, 1) := by decide +kernel
theorem dX9_restore_37 : decode cX9_restore 37 = .ok (.getfield 19, 3) := by decide +kernel
theorem dX9_restore_40 : decode cX9_restore 40 = .ok (.aload_n 2, 1) := by decide +kernel
theorem dX9_restore_41 : decode cX9_restore 41 = .ok (.getfield 253, 3) := by decide +kernel
theorem dX9_restore_44 : decode cX9_restore 44 = .ok (.bipush 100, 2) := by decide +kernel
theorem dX9_restore_46 : decode cX9_restore 46 = .ok (.idiv, 1) := by decide +kernel
theorem dX9_restore_47 : decode cX9_restore 47 = .ok (.aload_n 2, 1) := by decide +kernel
theorem dX9_restore_48 : decode cX9_restore 48 = .ok (.getfield 253, 3) := by decide +kernel
theorem dX9_restore_51 : decode cX9_restore 51 = .ok (.bipush 10, 2) := by decide +kernel
theorem dX9_restore_53 : decode cX9_restore 53 = .ok (.idiv, 1) := by decide +kernel
theorem dX9_restore_54 : decode cX9_restore 54 = .ok (.bipush 10, 2) := by decide +kernel
theorem dX9_restore_56 : decode cX9_restore 56 = .ok (.irem, 1) := by decide +kernel
theorem dX9_restore_57 : decode cX9_restore 57 = .ok (.aload_n 2, 1) := by decide +kernel
theorem dX9_restore_58 : decode cX9_restore 58 = .ok (.getfield 253, 3) := by decide +kernel
theorem dX9_restore_61 : decode cX9_restore 61 = .ok (.bipush 10, 2) := by decide +kernel
theorem dX9_restore_63 : decode cX9_restore 63 = .ok (.irem, 1) := by decide +kernel
theorem dX9_restore_64 : decode cX9_restore 64 = .ok (.invokevirtual 103, 3) := by decide +kernel
theorem dX9_restore_67 : decode cX9_restore 67 = .ok (.aload_n 0, 1) := by decide +kernel
theorem dX9_restore_68 : decode cX9_restore 68 = .ok (.getfield 26, 3) := by decide +kernel
theorem dX9_restore_71 : decode cX9_restore 71 = .ok (.aload_n 2, 1) := by decide +kernel
theorem dX9_restore_72 : decode cX9_restore 72 = .ok (.getfield 256, 3) := by decide +kernel
theorem dX9_restore_75 : decode cX9_restore 75 = .ok (.invokevirtual 257, 3) := by decide +kernel
theorem dX9_restore_78 : decode cX9_restore 78 = .ok (.iconst 1, 1) := by decide +kernel
theorem dX9_restore_79 : decode cX9_restore 79 = .ok (.ireturn, 1) := by decide +kernel
theorem dX9_imageNumbered_0 : decode cX9_imageNumbered 0 = .ok (.iload_n 1, 1) := by decide +kernel
theorem dX9_imageNumbered_1 : decode cX9_imageNumbered 1 = .ok (.ifCond .ne 10, 3) := by decide +kernel
theorem dX9_imageNumbered_4 : decode cX9_imageNumbered 4 = .ok (.aload_n 0, 1) := by decide +kernel
theorem dX9_imageNumbered_5 : decode cX9_imageNumbered 5 = .ok (.getfield 47, 3) := by decide +kernel
theorem dX9_imageNumbered_8 : decode cX9_imageNumbered 8 = .ok (.goto 7, 3) := by decide +kernel
theorem dX9_imageNumbered_11 : decode cX9_imageNumbered 11 = .ok (.aload_n 0, 1) := by decide +kernel
theorem dX9_imageNumbered_12 : decode cX9_imageNumbered 12 = .ok (.getfield 51, 3) := by decide +kernel
theorem dX9_imageNumbered_15 : decode cX9_imageNumbered 15 = .ok (.areturn, 1) := by decide +kernel
theorem dX9_told_0 : decode cX9_told 0 = .ok (.iload_n 1, 1) := by decide +kernel
theorem dX9_told_1 : decode cX9_told 1 = .ok (.bipush 10, 2) := by decide +kernel
theorem dX9_told_3 : decode cX9_told 3 = .ok (.if_icmp .lt 18, 3) := by decide +kernel
theorem dX9_told_6 : decode cX9_told 6 = .ok (.iload_n 1, 1) := by decide +kernel
theorem dX9_told_7 : decode cX9_told 7 = .ok (.bipush 16, 2) := by decide +kernel
theorem dX9_told_9 : decode cX9_told 9 = .ok (.if_icmp .ge 12, 3) := by decide +kernel
theorem dX9_told_12 : decode cX9_told 12 = .ok (.aload_n 0, 1) := by decide +kernel
theorem dX9_told_13 : decode cX9_told 13 = .ok (.iload_n 1, 1) := by decide +kernel
theorem dX9_told_14 : decode cX9_told 14 = .ok (.bipush 10, 2) := by decide +kernel
theorem dX9_told_16 : decode cX9_told 16 = .ok (.isub, 1) := by decide +kernel
theorem dX9_told_17 : decode cX9_told 17 = .ok (.invokevirtual 107, 3) := by decide +kernel
theorem dX9_told_20 : decode cX9_told 20 = .ok (.ireturn, 1) := by decide +kernel
theorem dX9_told_21 : decode cX9_told 21 = .ok (.iload_n 1, 1) := by decide +kernel
theorem dX9_told_22 : decode cX9_told 22 = .ok (.bipush 20, 2) := by decide +kernel
theorem dX9_told_24 : decode cX9_told 24 = .ok (.if_icmp .lt 21, 3) := by decide +kernel
theorem dX9_told_27 : decode cX9_told 27 = .ok (.iload_n 1, 1) := by decide +kernel
theorem dX9_told_28 : decode cX9_told 28 = .ok (.bipush 26, 2) := by decide +kernel
theorem dX9_told_30 : decode cX9_told 30 = .ok (.if_icmp .ge 15, 3) := by decide +kernel
theorem dX9_told_33 : decode cX9_told 33 = .ok (.aload_n 0, 1) := by decide +kernel
theorem dX9_told_34 : decode cX9_told 34 = .ok (.getfield 70, 3) := by decide +kernel
theorem dX9_told_37 : decode cX9_told 37 = .ok (.iload_n 1, 1) := by decide +kernel
theorem dX9_told_38 : decode cX9_told 38 = .ok (.bipush 20, 2) := by decide +kernel
theorem dX9_told_40 : decode cX9_told 40 = .ok (.isub, 1) := by decide +kernel
theorem dX9_told_41 : decode cX9_told 41 = .ok (.invokestatic 111, 3) := by decide +kernel
theorem dX9_told_44 : decode cX9_told 44 = .ok (.ireturn, 1) := by decide +kernel
theorem dX9_told_45 : decode cX9_told 45 = .ok (.iload_n 1, 1) := by decide +kernel
theorem dX9_told_46 : decode cX9_told 46 = .ok (.tableswitch 74 0 4 #[34, 42, 50, 58, 66], 34) := by decide +kernel
theorem dX9_told_80 : decode cX9_told 80 = .ok (.aload_n 0, 1) := by decide +kernel
theorem dX9_told_81 : decode cX9_told 81 = .ok (.getfield 12, 3) := by decide +kernel
theorem dX9_told_84 : decode cX9_told 84 = .ok (.getfield 78, 3) := by decide +kernel
theorem dX9_told_87 : decode cX9_told 87 = .ok (.ireturn, 1) := by decide +kernel
theorem dX9_told_88 : decode cX9_told 88 = .ok (.aload_n 0, 1) := by decide +kernel
theorem dX9_told_89 : decode cX9_told 89 = .ok (.getfield 26, 3) := by decide +kernel
theorem dX9_told_92 : decode cX9_told 92 = .ok (.getfield 210, 3) := by decide +kernel
theorem dX9_told_95 : decode cX9_told 95 = .ok (.ireturn, 1) := by decide +kernel
theorem dX9_told_96 : decode cX9_told 96 = .ok (.aload_n 0, 1) := by decide +kernel
theorem dX9_told_97 : decode cX9_told 97 = .ok (.getfield 19, 3) := by decide +kernel
theorem dX9_told_100 : decode cX9_told 100 = .ok (.getfield 261, 3) := by decide +kernel
theorem dX9_told_103 : decode cX9_told 103 = .ok (.ireturn, 1) := by decide +kernel
theorem dX9_told_104 : decode cX9_told 104 = .ok (.aload_n 0, 1) := by decide +kernel
theorem dX9_told_105 : decode cX9_told 105 = .ok (.getfield 19, 3) := by decide +kernel
theorem dX9_told_108 : decode cX9_told 108 = .ok (.getfield 264, 3) := by decide +kernel
theorem dX9_told_111 : decode cX9_told 111 = .ok (.ireturn, 1) := by decide +kernel
theorem dX9_told_112 : decode cX9_told 112 = .ok (.aload_n 0, 1) := by decide +kernel
theorem dX9_told_113 : decode cX9_told 113 = .ok (.getfield 19, 3) := by decide +kernel
theorem dX9_told_116 : decode cX9_told 116 = .ok (.getfield 267, 3) := by decide +kernel
theorem dX9_told_119 : decode cX9_told 119 = .ok (.ireturn, 1) := by decide +kernel
theorem dX9_told_120 : decode cX9_told 120 = .ok (.bipush (-2), 2) := by decide +kernel
theorem dX9_told_122 : decode cX9_told 122 = .ok (.ireturn, 1) := by decide +kernel
