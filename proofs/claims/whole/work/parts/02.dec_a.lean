theorem dX0_init_0 : decode cX0_init 0 = .ok (.aload_n 0, 1) := by decide +kernel
theorem dX0_init_1 : decode cX0_init 1 = .ok (.invokespecial 3, 3) := by decide +kernel
theorem dX0_init_4 : decode cX0_init 4 = .ok (.aload_n 0, 1) := by decide +kernel
theorem dX0_init_5 : decode cX0_init 5 = .ok (.bipush 8, 2) := by decide +kernel
theorem dX0_init_7 : decode cX0_init 7 = .ok (.newarray .long, 2) := by decide +kernel
theorem dX0_init_9 : decode cX0_init 9 = .ok (.putfield 9, 3) := by decide +kernel
theorem dX0_init_12 : decode cX0_init 12 = .ok (.aload_n 0, 1) := by decide +kernel
theorem dX0_init_13 : decode cX0_init 13 = .ok (.bipush 8, 2) := by decide +kernel
theorem dX0_init_15 : decode cX0_init 15 = .ok (.newarray .int, 2) := by decide +kernel
theorem dX0_init_17 : decode cX0_init 17 = .ok (.putfield 15, 3) := by decide +kernel
theorem dX0_init_20 : decode cX0_init 20 = .ok (.aload_n 0, 1) := by decide +kernel
theorem dX0_init_21 : decode cX0_init 21 = .ok (.bipush 8, 2) := by decide +kernel
theorem dX0_init_23 : decode cX0_init 23 = .ok (.newarray .int, 2) := by decide +kernel
theorem dX0_init_25 : decode cX0_init 25 = .ok (.putfield 19, 3) := by decide +kernel
theorem dX0_init_28 : decode cX0_init 28 = .ok (.aload_n 0, 1) := by decide +kernel
theorem dX0_init_29 : decode cX0_init 29 = .ok (.bipush 96, 2) := by decide +kernel
theorem dX0_init_31 : decode cX0_init 31 = .ok (.newarray .int, 2) := by decide +kernel
theorem dX0_init_33 : decode cX0_init 33 = .ok (.putfield 22, 3) := by decide +kernel
theorem dX0_init_36 : decode cX0_init 36 = .ok (.aload_n 0, 1) := by decide +kernel
theorem dX0_init_37 : decode cX0_init 37 = .ok (.iconst 0, 1) := by decide +kernel
theorem dX0_init_38 : decode cX0_init 38 = .ok (.putfield 25, 3) := by decide +kernel
theorem dX0_init_41 : decode cX0_init 41 = .ok (.return_, 1) := by decide +kernel
theorem dX0_add_0 : decode cX0_add 0 = .ok (.aload_n 0, 1) := by decide +kernel
theorem dX0_add_1 : decode cX0_add 1 = .ok (.getfield 25, 3) := by decide +kernel
theorem dX0_add_4 : decode cX0_add 4 = .ok (.ifCond .lt 12, 3) := by decide +kernel
theorem dX0_add_7 : decode cX0_add 7 = .ok (.aload_n 0, 1) := by decide +kernel
theorem dX0_add_8 : decode cX0_add 8 = .ok (.getfield 25, 3) := by decide +kernel
theorem dX0_add_11 : decode cX0_add 11 = .ok (.bipush 8, 2) := by decide +kernel
theorem dX0_add_13 : decode cX0_add 13 = .ok (.if_icmp .lt 6, 3) := by decide +kernel
theorem dX0_add_16 : decode cX0_add 16 = .ok (.bipush (-4), 2) := by decide +kernel
theorem dX0_add_18 : decode cX0_add 18 = .ok (.ireturn, 1) := by decide +kernel
theorem dX0_add_19 : decode cX0_add 19 = .ok (.aload_n 0, 1) := by decide +kernel
theorem dX0_add_20 : decode cX0_add 20 = .ok (.getfield 25, 3) := by decide +kernel
theorem dX0_add_23 : decode cX0_add 23 = .ok (.istore 5, 2) := by decide +kernel
theorem dX0_add_25 : decode cX0_add 25 = .ok (.aload_n 0, 1) := by decide +kernel
theorem dX0_add_26 : decode cX0_add 26 = .ok (.getfield 9, 3) := by decide +kernel
theorem dX0_add_29 : decode cX0_add 29 = .ok (.iload 5, 2) := by decide +kernel
theorem dX0_add_31 : decode cX0_add 31 = .ok (.lload_n 1, 1) := by decide +kernel
theorem dX0_add_32 : decode cX0_add 32 = .ok (.lastore, 1) := by decide +kernel
theorem dX0_add_33 : decode cX0_add 33 = .ok (.aload_n 0, 1) := by decide +kernel
theorem dX0_add_34 : decode cX0_add 34 = .ok (.getfield 15, 3) := by decide +kernel
theorem dX0_add_37 : decode cX0_add 37 = .ok (.iload 5, 2) := by decide +kernel
theorem dX0_add_39 : decode cX0_add 39 = .ok (.aload_n 3, 1) := by decide +kernel
theorem dX0_add_40 : decode cX0_add 40 = .ok (.invokevirtual 29, 3) := by decide +kernel
theorem dX0_add_43 : decode cX0_add 43 = .ok (.iastore, 1) := by decide +kernel
theorem dX0_add_44 : decode cX0_add 44 = .ok (.aload_n 0, 1) := by decide +kernel
theorem dX0_add_45 : decode cX0_add 45 = .ok (.getfield 19, 3) := by decide +kernel
theorem dX0_add_48 : decode cX0_add 48 = .ok (.iload 5, 2) := by decide +kernel
theorem dX0_add_50 : decode cX0_add 50 = .ok (.iload 4, 2) := by decide +kernel
theorem dX0_add_52 : decode cX0_add 52 = .ok (.iastore, 1) := by decide +kernel
theorem dX0_add_53 : decode cX0_add 53 = .ok (.iconst 0, 1) := by decide +kernel
theorem dX0_add_54 : decode cX0_add 54 = .ok (.istore 6, 2) := by decide +kernel
theorem dX0_add_56 : decode cX0_add 56 = .ok (.iload 6, 2) := by decide +kernel
theorem dX0_add_58 : decode cX0_add 58 = .ok (.aload_n 3, 1) := by decide +kernel
theorem dX0_add_59 : decode cX0_add 59 = .ok (.invokevirtual 29, 3) := by decide +kernel
theorem dX0_add_62 : decode cX0_add 62 = .ok (.if_icmp .ge 35, 3) := by decide +kernel
theorem dX0_add_65 : decode cX0_add 65 = .ok (.iload 6, 2) := by decide +kernel
theorem dX0_add_67 : decode cX0_add 67 = .ok (.bipush 12, 2) := by decide +kernel
theorem dX0_add_69 : decode cX0_add 69 = .ok (.if_icmp .ge 28, 3) := by decide +kernel
theorem dX0_add_72 : decode cX0_add 72 = .ok (.aload_n 0, 1) := by decide +kernel
theorem dX0_add_73 : decode cX0_add 73 = .ok (.getfield 22, 3) := by decide +kernel
theorem dX0_add_76 : decode cX0_add 76 = .ok (.iload 5, 2) := by decide +kernel
theorem dX0_add_78 : decode cX0_add 78 = .ok (.bipush 12, 2) := by decide +kernel
theorem dX0_add_80 : decode cX0_add 80 = .ok (.imul, 1) := by decide +kernel
theorem dX0_add_81 : decode cX0_add 81 = .ok (.iload 6, 2) := by decide +kernel
theorem dX0_add_83 : decode cX0_add 83 = .ok (.iadd, 1) := by decide +kernel
theorem dX0_add_84 : decode cX0_add 84 = .ok (.aload_n 3, 1) := by decide +kernel
theorem dX0_add_85 : decode cX0_add 85 = .ok (.iload 6, 2) := by decide +kernel
theorem dX0_add_87 : decode cX0_add 87 = .ok (.invokestatic 35, 3) := by decide +kernel
theorem dX0_add_90 : decode cX0_add 90 = .ok (.iastore, 1) := by decide +kernel
theorem dX0_add_91 : decode cX0_add 91 = .ok (.iinc 6 1, 3) := by decide +kernel
theorem dX0_add_94 : decode cX0_add 94 = .ok (.goto (-38), 3) := by decide +kernel
theorem dX0_add_97 : decode cX0_add 97 = .ok (.aload_n 0, 1) := by decide +kernel
theorem dX0_add_98 : decode cX0_add 98 = .ok (.dup, 1) := by decide +kernel
theorem dX0_add_99 : decode cX0_add 99 = .ok (.getfield 25, 3) := by decide +kernel
theorem dX0_add_102 : decode cX0_add 102 = .ok (.iconst 1, 1) := by decide +kernel
theorem dX0_add_103 : decode cX0_add 103 = .ok (.iadd, 1) := by decide +kernel
theorem dX0_add_104 : decode cX0_add 104 = .ok (.putfield 25, 3) := by decide +kernel
theorem dX0_add_107 : decode cX0_add 107 = .ok (.iload 5, 2) := by decide +kernel
theorem dX0_add_109 : decode cX0_add 109 = .ok (.ireturn, 1) := by decide +kernel
theorem dX0_moveOnPad_0 : decode cX0_moveOnPad 0 = .ok (.bipush 100, 2) := by decide +kernel
theorem dX0_moveOnPad_2 : decode cX0_moveOnPad 2 = .ok (.aload_n 0, 1) := by decide +kernel
theorem dX0_moveOnPad_3 : decode cX0_moveOnPad 3 = .ok (.iload_n 1, 1) := by decide +kernel
theorem dX0_moveOnPad_4 : decode cX0_moveOnPad 4 = .ok (.invokevirtual 39, 3) := by decide +kernel
theorem dX0_moveOnPad_7 : decode cX0_moveOnPad 7 = .ok (.imul, 1) := by decide +kernel
theorem dX0_moveOnPad_8 : decode cX0_moveOnPad 8 = .ok (.aload_n 0, 1) := by decide +kernel
theorem dX0_moveOnPad_9 : decode cX0_moveOnPad 9 = .ok (.iload_n 1, 1) := by decide +kernel
theorem dX0_moveOnPad_10 : decode cX0_moveOnPad 10 = .ok (.invokevirtual 43, 3) := by decide +kernel
theorem dX0_moveOnPad_13 : decode cX0_moveOnPad 13 = .ok (.iadd, 1) := by decide +kernel
theorem dX0_moveOnPad_14 : decode cX0_moveOnPad 14 = .ok (.ireturn, 1) := by decide +kernel
theorem dX0_copyFrom_0 : decode cX0_copyFrom 0 = .ok (.aload_n 1, 1) := by decide +kernel
theorem dX0_copyFrom_1 : decode cX0_copyFrom 1 = .ok (.getfield 9, 3) := by decide +kernel
theorem dX0_copyFrom_4 : decode cX0_copyFrom 4 = .ok (.iconst 0, 1) := by decide +kernel
theorem dX0_copyFrom_5 : decode cX0_copyFrom 5 = .ok (.aload_n 0, 1) := by decide +kernel
theorem dX0_copyFrom_6 : decode cX0_copyFrom 6 = .ok (.getfield 9, 3) := by decide +kernel
theorem dX0_copyFrom_9 : decode cX0_copyFrom 9 = .ok (.iconst 0, 1) := by decide +kernel
theorem dX0_copyFrom_10 : decode cX0_copyFrom 10 = .ok (.bipush 8, 2) := by decide +kernel
theorem dX0_copyFrom_12 : decode cX0_copyFrom 12 = .ok (.invokestatic 46, 3) := by decide +kernel
theorem dX0_copyFrom_15 : decode cX0_copyFrom 15 = .ok (.aload_n 1, 1) := by decide +kernel
theorem dX0_copyFrom_16 : decode cX0_copyFrom 16 = .ok (.getfield 15, 3) := by decide +kernel
theorem dX0_copyFrom_19 : decode cX0_copyFrom 19 = .ok (.iconst 0, 1) := by decide +kernel
theorem dX0_copyFrom_20 : decode cX0_copyFrom 20 = .ok (.aload_n 0, 1) := by decide +kernel
theorem dX0_copyFrom_21 : decode cX0_copyFrom 21 = .ok (.getfield 15, 3) := by decide +kernel
theorem dX0_copyFrom_24 : decode cX0_copyFrom 24 = .ok (.iconst 0, 1) := by decide +kernel
theorem dX0_copyFrom_25 : decode cX0_copyFrom 25 = .ok (.bipush 8, 2) := by decide +kernel
theorem dX0_copyFrom_27 : decode cX0_copyFrom 27 = .ok (.invokestatic 46, 3) := by decide +kernel
theorem dX0_copyFrom_30 : decode cX0_copyFrom 30 = .ok (.aload_n 1, 1) := by decide +kernel
theorem dX0_copyFrom_31 : decode cX0_copyFrom 31 = .ok (.getfield 19, 3) := by decide +kernel
theorem dX0_copyFrom_34 : decode cX0_copyFrom 34 = .ok (.iconst 0, 1) := by decide +kernel
theorem dX0_copyFrom_35 : decode cX0_copyFrom 35 = .ok (.aload_n 0, 1) := by decide +kernel
theorem dX0_copyFrom_36 : decode cX0_copyFrom 36 = .ok (.getfield 19, 3) := by decide +kernel
theorem dX0_copyFrom_39 : decode cX0_copyFrom 39 = .ok (.iconst 0, 1) := by decide +kernel
theorem dX0_copyFrom_40 : decode cX0_copyFrom 40 = .ok (.bipush 8, 2) := by decide +kernel
theorem dX0_copyFrom_42 : decode cX0_copyFrom 42 = .ok (.invokestatic 46, 3) := by decide +kernel
theorem dX0_copyFrom_45 : decode cX0_copyFrom 45 = .ok (.aload_n 1, 1) := by decide +kernel
theorem dX0_copyFrom_46 : decode cX0_copyFrom 46 = .ok (.getfield 22, 3) := by decide +kernel
theorem dX0_copyFrom_49 : decode cX0_copyFrom 49 = .ok (.iconst 0, 1) := by decide +kernel
theorem dX0_copyFrom_50 : decode cX0_copyFrom 50 = .ok (.aload_n 0, 1) := by decide +kernel
theorem dX0_copyFrom_51 : decode cX0_copyFrom 51 = .ok (.getfield 22, 3) := by decide +kernel
theorem dX0_copyFrom_54 : decode cX0_copyFrom 54 = .ok (.iconst 0, 1) := by decide +kernel
theorem dX0_copyFrom_55 : decode cX0_copyFrom 55 = .ok (.bipush 96, 2) := by decide +kernel
theorem dX0_copyFrom_57 : decode cX0_copyFrom 57 = .ok (.invokestatic 46, 3) := by decide +kernel
theorem dX0_copyFrom_60 : decode cX0_copyFrom 60 = .ok (.aload_n 0, 1) := by decide +kernel
theorem dX0_copyFrom_61 : decode cX0_copyFrom 61 = .ok (.aload_n 1, 1) := by decide +kernel
theorem dX0_copyFrom_62 : decode cX0_copyFrom 62 = .ok (.getfield 25, 3) := by decide +kernel
theorem dX0_copyFrom_65 : decode cX0_copyFrom 65 = .ok (.putfield 25, 3) := by decide +kernel
theorem dX0_copyFrom_68 : decode cX0_copyFrom 68 = .ok (.return_, 1) := by decide +kernel
theorem dX0_has_0 : decode cX0_has 0 = .ok (.iload_n 1, 1) := by decide +kernel
theorem dX0_has_1 : decode cX0_has 1 = .ok (.ifCond .lt 21, 3) := by decide +kernel
theorem dX0_has_4 : decode cX0_has 4 = .ok (.iload_n 1, 1) := by decide +kernel
theorem dX0_has_5 : decode cX0_has 5 = .ok (.aload_n 0, 1) := by decide +kernel
theorem dX0_has_6 : decode cX0_has 6 = .ok (.getfield 25, 3) := by decide +kernel
theorem dX0_has_9 : decode cX0_has 9 = .ok (.if_icmp .ge 13, 3) := by decide +kernel
theorem dX0_has_12 : decode cX0_has 12 = .ok (.iload_n 1, 1) := by decide +kernel
theorem dX0_has_13 : decode cX0_has 13 = .ok (.bipush 8, 2) := by decide +kernel
theorem dX0_has_15 : decode cX0_has 15 = .ok (.if_icmp .ge 7, 3) := by decide +kernel
theorem dX0_has_18 : decode cX0_has 18 = .ok (.iconst 1, 1) := by decide +kernel
theorem dX0_has_19 : decode cX0_has 19 = .ok (.goto 4, 3) := by decide +kernel
theorem dX0_has_22 : decode cX0_has 22 = .ok (.iconst 0, 1) := by decide +kernel
theorem dX0_has_23 : decode cX0_has 23 = .ok (.ireturn, 1) := by decide +kernel
theorem dX0_lengthOf_0 : decode cX0_lengthOf 0 = .ok (.aload_n 0, 1) := by decide +kernel
theorem dX0_lengthOf_1 : decode cX0_lengthOf 1 = .ok (.iload_n 1, 1) := by decide +kernel
theorem dX0_lengthOf_2 : decode cX0_lengthOf 2 = .ok (.invokevirtual 52, 3) := by decide +kernel
theorem dX0_lengthOf_5 : decode cX0_lengthOf 5 = .ok (.ifCond .eq 12, 3) := by decide +kernel
theorem dX0_lengthOf_8 : decode cX0_lengthOf 8 = .ok (.aload_n 0, 1) := by decide +kernel
theorem dX0_lengthOf_9 : decode cX0_lengthOf 9 = .ok (.getfield 15, 3) := by decide +kernel
theorem dX0_lengthOf_12 : decode cX0_lengthOf 12 = .ok (.iload_n 1, 1) := by decide +kernel
theorem dX0_lengthOf_13 : decode cX0_lengthOf 13 = .ok (.iaload, 1) := by decide +kernel
theorem dX0_lengthOf_14 : decode cX0_lengthOf 14 = .ok (.goto 4, 3) := by decide +kernel
theorem dX0_lengthOf_17 : decode cX0_lengthOf 17 = .ok (.iconst 0, 1) := by decide +kernel
theorem dX0_lengthOf_18 : decode cX0_lengthOf 18 = .ok (.ireturn, 1) := by decide +kernel
theorem dX0_broughtBy_0 : decode cX0_broughtBy 0 = .ok (.aload_n 0, 1) := by decide +kernel
theorem dX0_broughtBy_1 : decode cX0_broughtBy 1 = .ok (.iload_n 1, 1) := by decide +kernel
theorem dX0_broughtBy_2 : decode cX0_broughtBy 2 = .ok (.invokevirtual 52, 3) := by decide +kernel
theorem dX0_broughtBy_5 : decode cX0_broughtBy 5 = .ok (.ifCond .eq 12, 3) := by decide +kernel
theorem dX0_broughtBy_8 : decode cX0_broughtBy 8 = .ok (.aload_n 0, 1) := by decide +kernel
theorem dX0_broughtBy_9 : decode cX0_broughtBy 9 = .ok (.getfield 19, 3) := by decide +kernel
theorem dX0_broughtBy_12 : decode cX0_broughtBy 12 = .ok (.iload_n 1, 1) := by decide +kernel
theorem dX0_broughtBy_13 : decode cX0_broughtBy 13 = .ok (.iaload, 1) := by decide +kernel
theorem dX0_broughtBy_14 : decode cX0_broughtBy 14 = .ok (.goto 4, 3) := by decide +kernel
theorem dX0_broughtBy_17 : decode cX0_broughtBy 17 = .ok (.iconst 0, 1) := by decide +kernel
theorem dX0_broughtBy_18 : decode cX0_broughtBy 18 = .ok (.ireturn, 1) := by decide +kernel
theorem dX0_moveOf_0 : decode cX0_moveOf 0 = .ok (.iload_n 2, 1) := by decide +kernel
theorem dX0_moveOf_1 : decode cX0_moveOf 1 = .ok (.ifCond .lt 18, 3) := by decide +kernel
theorem dX0_moveOf_4 : decode cX0_moveOf 4 = .ok (.iload_n 2, 1) := by decide +kernel
theorem dX0_moveOf_5 : decode cX0_moveOf 5 = .ok (.aload_n 0, 1) := by decide +kernel
theorem dX0_moveOf_6 : decode cX0_moveOf 6 = .ok (.iload_n 1, 1) := by decide +kernel
theorem dX0_moveOf_7 : decode cX0_moveOf 7 = .ok (.invokevirtual 56, 3) := by decide +kernel
theorem dX0_moveOf_10 : decode cX0_moveOf 10 = .ok (.if_icmp .ge 9, 3) := by decide +kernel
theorem dX0_moveOf_13 : decode cX0_moveOf 13 = .ok (.iload_n 2, 1) := by decide +kernel
theorem dX0_moveOf_14 : decode cX0_moveOf 14 = .ok (.bipush 12, 2) := by decide +kernel
theorem dX0_moveOf_16 : decode cX0_moveOf 16 = .ok (.if_icmp .lt 8, 3) := by decide +kernel
theorem dX0_moveOf_19 : decode cX0_moveOf 19 = .ok (.bipush (-6), 2) := by decide +kernel
theorem dX0_moveOf_21 : decode cX0_moveOf 21 = .ok (.goto 14, 3) := by decide +kernel
theorem dX0_moveOf_24 : decode cX0_moveOf 24 = .ok (.aload_n 0, 1) := by decide +kernel
theorem dX0_moveOf_25 : decode cX0_moveOf 25 = .ok (.getfield 22, 3) := by decide +kernel
theorem dX0_moveOf_28 : decode cX0_moveOf 28 = .ok (.iload_n 1, 1) := by decide +kernel
theorem dX0_moveOf_29 : decode cX0_moveOf 29 = .ok (.bipush 12, 2) := by decide +kernel
theorem dX0_moveOf_31 : decode cX0_moveOf 31 = .ok (.imul, 1) := by decide +kernel
theorem dX0_moveOf_32 : decode cX0_moveOf 32 = .ok (.iload_n 2, 1) := by decide +kernel
theorem dX0_moveOf_33 : decode cX0_moveOf 33 = .ok (.iadd, 1) := by decide +kernel
theorem dX0_moveOf_34 : decode cX0_moveOf 34 = .ok (.iaload, 1) := by decide +kernel
theorem dX0_moveOf_35 : decode cX0_moveOf 35 = .ok (.ireturn, 1) := by decide +kernel
theorem dX0_begins_0 : decode cX0_begins 0 = .ok (.aload_n 0, 1) := by decide +kernel
theorem dX0_begins_1 : decode cX0_begins 1 = .ok (.iload_n 1, 1) := by decide +kernel
theorem dX0_begins_2 : decode cX0_begins 2 = .ok (.invokevirtual 52, 3) := by decide +kernel
theorem dX0_begins_5 : decode cX0_begins 5 = .ok (.ifCond .eq 28, 3) := by decide +kernel
theorem dX0_begins_8 : decode cX0_begins 8 = .ok (.aload_n 0, 1) := by decide +kernel
theorem dX0_begins_9 : decode cX0_begins 9 = .ok (.getfield 9, 3) := by decide +kernel
theorem dX0_begins_12 : decode cX0_begins 12 = .ok (.iload_n 1, 1) := by decide +kernel
theorem dX0_begins_13 : decode cX0_begins 13 = .ok (.laload, 1) := by decide +kernel
theorem dX0_begins_14 : decode cX0_begins 14 = .ok (.lload_n 2, 1) := by decide +kernel
theorem dX0_begins_15 : decode cX0_begins 15 = .ok (.lcmp, 1) := by decide +kernel
theorem dX0_begins_16 : decode cX0_begins 16 = .ok (.ifCond .ne 17, 3) := by decide +kernel
theorem dX0_begins_19 : decode cX0_begins 19 = .ok (.aload_n 0, 1) := by decide +kernel
theorem dX0_begins_20 : decode cX0_begins 20 = .ok (.getfield 15, 3) := by decide +kernel
theorem dX0_begins_23 : decode cX0_begins 23 = .ok (.iload_n 1, 1) := by decide +kernel
theorem dX0_begins_24 : decode cX0_begins 24 = .ok (.iaload, 1) := by decide +kernel
theorem dX0_begins_25 : decode cX0_begins 25 = .ok (.aload 4, 2) := by decide +kernel
theorem dX0_begins_27 : decode cX0_begins 27 = .ok (.invokevirtual 29, 3) := by decide +kernel
theorem dX0_begins_30 : decode cX0_begins 30 = .ok (.if_icmp .ge 5, 3) := by decide +kernel
theorem dX0_begins_33 : decode cX0_begins 33 = .ok (.iconst 0, 1) := by decide +kernel
theorem dX0_begins_34 : decode cX0_begins 34 = .ok (.ireturn, 1) := by decide +kernel
theorem dX0_begins_35 : decode cX0_begins 35 = .ok (.iconst 0, 1) := by decide +kernel
theorem dX0_begins_36 : decode cX0_begins 36 = .ok (.istore 5, 2) := by decide +kernel
theorem dX0_begins_38 : decode cX0_begins 38 = .ok (.iload 5, 2) := by decide +kernel
theorem dX0_begins_40 : decode cX0_begins 40 = .ok (.aload 4, 2) := by decide +kernel
theorem dX0_begins_42 : decode cX0_begins 42 = .ok (.invokevirtual 29, 3) := by decide +kernel
theorem dX0_begins_45 : decode cX0_begins 45 = .ok (.if_icmp .ge 35, 3) := by decide +kernel
theorem dX0_begins_48 : decode cX0_begins 48 = .ok (.iload 5, 2) := by decide +kernel
theorem dX0_begins_50 : decode cX0_begins 50 = .ok (.bipush 12, 2) := by decide +kernel
theorem dX0_begins_52 : decode cX0_begins 52 = .ok (.if_icmp .ge 28, 3) := by decide +kernel
theorem dX0_begins_55 : decode cX0_begins 55 = .ok (.aload_n 0, 1) := by decide +kernel
theorem dX0_begins_56 : decode cX0_begins 56 = .ok (.iload_n 1, 1) := by decide +kernel
theorem dX0_begins_57 : decode cX0_begins 57 = .ok (.iload 5, 2) := by decide +kernel
theorem dX0_begins_59 : decode cX0_begins 59 = .ok (.invokevirtual 59, 3) := by decide +kernel
theorem dX0_begins_62 : decode cX0_begins 62 = .ok (.aload 4, 2) := by decide +kernel
theorem dX0_begins_64 : decode cX0_begins 64 = .ok (.iload 5, 2) := by decide +kernel
theorem dX0_begins_66 : decode cX0_begins 66 = .ok (.invokestatic 35, 3) := by decide +kernel
theorem dX0_begins_69 : decode cX0_begins 69 = .ok (.if_icmp .eq 5, 3) := by decide +kernel
theorem dX0_begins_72 : decode cX0_begins 72 = .ok (.iconst 0, 1) := by decide +kernel
theorem dX0_begins_73 : decode cX0_begins 73 = .ok (.ireturn, 1) := by decide +kernel
theorem dX0_begins_74 : decode cX0_begins 74 = .ok (.iinc 5 1, 3) := by decide +kernel
theorem dX0_begins_77 : decode cX0_begins 77 = .ok (.goto (-39), 3) := by decide +kernel
theorem dX0_begins_80 : decode cX0_begins 80 = .ok (.iconst 1, 1) := by decide +kernel
theorem dX0_begins_81 : decode cX0_begins 81 = .ok (.ireturn, 1) := by decide +kernel
theorem dX0_countBegun_0 : decode cX0_countBegun 0 = .ok (.iconst 0, 1) := by decide +kernel
theorem dX0_countBegun_1 : decode cX0_countBegun 1 = .ok (.istore 4, 2) := by decide +kernel
theorem dX0_countBegun_3 : decode cX0_countBegun 3 = .ok (.iconst 0, 1) := by decide +kernel
theorem dX0_countBegun_4 : decode cX0_countBegun 4 = .ok (.istore 5, 2) := by decide +kernel
theorem dX0_countBegun_6 : decode cX0_countBegun 6 = .ok (.iload 5, 2) := by decide +kernel
theorem dX0_countBegun_8 : decode cX0_countBegun 8 = .ok (.aload_n 0, 1) := by decide +kernel
theorem dX0_countBegun_9 : decode cX0_countBegun 9 = .ok (.getfield 25, 3) := by decide +kernel
theorem dX0_countBegun_12 : decode cX0_countBegun 12 = .ok (.if_icmp .ge 23, 3) := by decide +kernel
theorem dX0_countBegun_15 : decode cX0_countBegun 15 = .ok (.aload_n 0, 1) := by decide +kernel
theorem dX0_countBegun_16 : decode cX0_countBegun 16 = .ok (.iload 5, 2) := by decide +kernel
theorem dX0_countBegun_18 : decode cX0_countBegun 18 = .ok (.lload_n 1, 1) := by decide +kernel
theorem dX0_countBegun_19 : decode cX0_countBegun 19 = .ok (.aload_n 3, 1) := by decide +kernel
theorem dX0_countBegun_20 : decode cX0_countBegun 20 = .ok (.invokevirtual 63, 3) := by decide +kernel
theorem dX0_countBegun_23 : decode cX0_countBegun 23 = .ok (.ifCond .eq 6, 3) := by decide +kernel
theorem dX0_countBegun_26 : decode cX0_countBegun 26 = .ok (.iinc 4 1, 3) := by decide +kernel
theorem dX0_countBegun_29 : decode cX0_countBegun 29 = .ok (.iinc 5 1, 3) := by decide +kernel
theorem dX0_countBegun_32 : decode cX0_countBegun 32 = .ok (.goto (-26), 3) := by decide +kernel
theorem dX0_countBegun_35 : decode cX0_countBegun 35 = .ok (.iload 4, 2) := by decide +kernel
theorem dX0_countBegun_37 : decode cX0_countBegun 37 = .ok (.ireturn, 1) := by decide +kernel
theorem dX0_countWon_0 : decode cX0_countWon 0 = .ok (.iconst 0, 1) := by decide +kernel
theorem dX0_countWon_1 : decode cX0_countWon 1 = .ok (.istore 5, 2) := by decide +kernel
theorem dX0_countWon_3 : decode cX0_countWon 3 = .ok (.iconst 0, 1) := by decide +kernel
theorem dX0_countWon_4 : decode cX0_countWon 4 = .ok (.istore 6, 2) := by decide +kernel
theorem dX0_countWon_6 : decode cX0_countWon 6 = .ok (.iload 6, 2) := by decide +kernel
theorem dX0_countWon_8 : decode cX0_countWon 8 = .ok (.aload_n 0, 1) := by decide +kernel
theorem dX0_countWon_9 : decode cX0_countWon 9 = .ok (.getfield 25, 3) := by decide +kernel
theorem dX0_countWon_12 : decode cX0_countWon 12 = .ok (.if_icmp .ge 34, 3) := by decide +kernel
theorem dX0_countWon_15 : decode cX0_countWon 15 = .ok (.aload_n 0, 1) := by decide +kernel
theorem dX0_countWon_16 : decode cX0_countWon 16 = .ok (.iload 6, 2) := by decide +kernel
theorem dX0_countWon_18 : decode cX0_countWon 18 = .ok (.lload_n 1, 1) := by decide +kernel
theorem dX0_countWon_19 : decode cX0_countWon 19 = .ok (.aload_n 3, 1) := by decide +kernel
theorem dX0_countWon_20 : decode cX0_countWon 20 = .ok (.invokevirtual 63, 3) := by decide +kernel
theorem dX0_countWon_23 : decode cX0_countWon 23 = .ok (.ifCond .eq 17, 3) := by decide +kernel
theorem dX0_countWon_26 : decode cX0_countWon 26 = .ok (.aload_n 0, 1) := by decide +kernel
theorem dX0_countWon_27 : decode cX0_countWon 27 = .ok (.iload 6, 2) := by decide +kernel
theorem dX0_countWon_29 : decode cX0_countWon 29 = .ok (.invokevirtual 67, 3) := by decide +kernel
theorem dX0_countWon_32 : decode cX0_countWon 32 = .ok (.iload 4, 2) := by decide +kernel
theorem dX0_countWon_34 : decode cX0_countWon 34 = .ok (.if_icmp .ne 6, 3) := by decide +kernel
theorem dX0_countWon_37 : decode cX0_countWon 37 = .ok (.iinc 5 1, 3) := by decide +kernel
theorem dX0_countWon_40 : decode cX0_countWon 40 = .ok (.iinc 6 1, 3) := by decide +kernel
theorem dX0_countWon_43 : decode cX0_countWon 43 = .ok (.goto (-37), 3) := by decide +kernel
theorem dX0_countWon_46 : decode cX0_countWon 46 = .ok (.iload 5, 2) := by decide +kernel
theorem dX0_countWon_48 : decode cX0_countWon 48 = .ok (.ireturn, 1) := by decide +kernel
theorem dX0_timesPlayed_0 : decode cX0_timesPlayed 0 = .ok (.iconst 0, 1) := by decide +kernel
theorem dX0_timesPlayed_1 : decode cX0_timesPlayed 1 = .ok (.istore 5, 2) := by decide +kernel
theorem dX0_timesPlayed_3 : decode cX0_timesPlayed 3 = .ok (.iconst 0, 1) := by decide +kernel
theorem dX0_timesPlayed_4 : decode cX0_timesPlayed 4 = .ok (.istore 6, 2) := by decide +kernel
theorem dX0_timesPlayed_6 : decode cX0_timesPlayed 6 = .ok (.iload 6, 2) := by decide +kernel
theorem dX0_timesPlayed_8 : decode cX0_timesPlayed 8 = .ok (.aload_n 0, 1) := by decide +kernel
theorem dX0_timesPlayed_9 : decode cX0_timesPlayed 9 = .ok (.getfield 25, 3) := by decide +kernel
theorem dX0_timesPlayed_12 : decode cX0_timesPlayed 12 = .ok (.if_icmp .ge 45, 3) := by decide +kernel
theorem dX0_timesPlayed_15 : decode cX0_timesPlayed 15 = .ok (.iload 4, 2) := by decide +kernel
theorem dX0_timesPlayed_17 : decode cX0_timesPlayed 17 = .ok (.bipush (-6), 2) := by decide +kernel
theorem dX0_timesPlayed_19 : decode cX0_timesPlayed 19 = .ok (.if_icmp .eq 32, 3) := by decide +kernel
theorem dX0_timesPlayed_22 : decode cX0_timesPlayed 22 = .ok (.aload_n 0, 1) := by decide +kernel
theorem dX0_timesPlayed_23 : decode cX0_timesPlayed 23 = .ok (.iload 6, 2) := by decide +kernel
theorem dX0_timesPlayed_25 : decode cX0_timesPlayed 25 = .ok (.lload_n 1, 1) := by decide +kernel
theorem dX0_timesPlayed_26 : decode cX0_timesPlayed 26 = .ok (.aload_n 3, 1) := by decide +kernel
theorem dX0_timesPlayed_27 : decode cX0_timesPlayed 27 = .ok (.invokevirtual 63, 3) := by decide +kernel
theorem dX0_timesPlayed_30 : decode cX0_timesPlayed 30 = .ok (.ifCond .eq 21, 3) := by decide +kernel
theorem dX0_timesPlayed_33 : decode cX0_timesPlayed 33 = .ok (.aload_n 0, 1) := by decide +kernel
theorem dX0_timesPlayed_34 : decode cX0_timesPlayed 34 = .ok (.iload 6, 2) := by decide +kernel
theorem dX0_timesPlayed_36 : decode cX0_timesPlayed 36 = .ok (.aload_n 3, 1) := by decide +kernel
theorem dX0_timesPlayed_37 : decode cX0_timesPlayed 37 = .ok (.invokevirtual 29, 3) := by decide +kernel
theorem dX0_timesPlayed_40 : decode cX0_timesPlayed 40 = .ok (.invokevirtual 59, 3) := by decide +kernel
theorem dX0_timesPlayed_43 : decode cX0_timesPlayed 43 = .ok (.iload 4, 2) := by decide +kernel
theorem dX0_timesPlayed_45 : decode cX0_timesPlayed 45 = .ok (.if_icmp .ne 6, 3) := by decide +kernel
theorem dX0_timesPlayed_48 : decode cX0_timesPlayed 48 = .ok (.iinc 5 1, 3) := by decide +kernel
theorem dX0_timesPlayed_51 : decode cX0_timesPlayed 51 = .ok (.iinc 6 1, 3) := by decide +kernel
theorem dX0_timesPlayed_54 : decode cX0_timesPlayed 54 = .ok (.goto (-48), 3) := by decide +kernel
theorem dX0_timesPlayed_57 : decode cX0_timesPlayed 57 = .ok (.iload 5, 2) := by decide +kernel
theorem dX0_timesPlayed_59 : decode cX0_timesPlayed 59 = .ok (.ireturn, 1) := by decide +kernel
theorem dX0_mostPlayed_0 : decode cX0_mostPlayed 0 = .ok (.bipush (-6), 2) := by decide +kernel
theorem dX0_mostPlayed_2 : decode cX0_mostPlayed 2 = .ok (.istore 4, 2) := by decide +kernel
theorem dX0_mostPlayed_4 : decode cX0_mostPlayed 4 = .ok (.iconst 0, 1) := by decide +kernel
theorem dX0_mostPlayed_5 : decode cX0_mostPlayed 5 = .ok (.istore 5, 2) := by decide +kernel
theorem dX0_mostPlayed_7 : decode cX0_mostPlayed 7 = .ok (.iconst 0, 1) := by decide +kernel
theorem dX0_mostPlayed_8 : decode cX0_mostPlayed 8 = .ok (.istore 6, 2) := by decide +kernel
theorem dX0_mostPlayed_10 : decode cX0_mostPlayed 10 = .ok (.iload 6, 2) := by decide +kernel
theorem dX0_mostPlayed_12 : decode cX0_mostPlayed 12 = .ok (.aload_n 0, 1) := by decide +kernel
theorem dX0_mostPlayed_13 : decode cX0_mostPlayed 13 = .ok (.getfield 25, 3) := by decide +kernel
theorem dX0_mostPlayed_16 : decode cX0_mostPlayed 16 = .ok (.if_icmp .ge 81, 3) := by decide +kernel
theorem dX0_mostPlayed_19 : decode cX0_mostPlayed 19 = .ok (.aload_n 0, 1) := by decide +kernel
theorem dX0_mostPlayed_20 : decode cX0_mostPlayed 20 = .ok (.iload 6, 2) := by decide +kernel
theorem dX0_mostPlayed_22 : decode cX0_mostPlayed 22 = .ok (.lload_n 1, 1) := by decide +kernel
theorem dX0_mostPlayed_23 : decode cX0_mostPlayed 23 = .ok (.aload_n 3, 1) := by decide +kernel
theorem dX0_mostPlayed_24 : decode cX0_mostPlayed 24 = .ok (.invokevirtual 63, 3) := by decide +kernel
theorem dX0_mostPlayed_27 : decode cX0_mostPlayed 27 = .ok (.ifCond .eq 16, 3) := by decide +kernel
theorem dX0_mostPlayed_30 : decode cX0_mostPlayed 30 = .ok (.aload_n 0, 1) := by decide +kernel
theorem dX0_mostPlayed_31 : decode cX0_mostPlayed 31 = .ok (.iload 6, 2) := by decide +kernel
theorem dX0_mostPlayed_33 : decode cX0_mostPlayed 33 = .ok (.aload_n 3, 1) := by decide +kernel
theorem dX0_mostPlayed_34 : decode cX0_mostPlayed 34 = .ok (.invokevirtual 29, 3) := by decide +kernel
theorem dX0_mostPlayed_37 : decode cX0_mostPlayed 37 = .ok (.invokevirtual 59, 3) := by decide +kernel
theorem dX0_mostPlayed_40 : decode cX0_mostPlayed 40 = .ok (.goto 5, 3) := by decide +kernel
theorem dX0_mostPlayed_43 : decode cX0_mostPlayed 43 = .ok (.bipush (-6), 2) := by decide +kernel
theorem dX0_mostPlayed_45 : decode cX0_mostPlayed 45 = .ok (.istore 7, 2) := by decide +kernel
theorem dX0_mostPlayed_47 : decode cX0_mostPlayed 47 = .ok (.aload_n 0, 1) := by decide +kernel
theorem dX0_mostPlayed_48 : decode cX0_mostPlayed 48 = .ok (.lload_n 1, 1) := by decide +kernel
theorem dX0_mostPlayed_49 : decode cX0_mostPlayed 49 = .ok (.aload_n 3, 1) := by decide +kernel
theorem dX0_mostPlayed_50 : decode cX0_mostPlayed 50 = .ok (.iload 7, 2) := by decide +kernel
theorem dX0_mostPlayed_52 : decode cX0_mostPlayed 52 = .ok (.invokevirtual 70, 3) := by decide +kernel
theorem dX0_mostPlayed_55 : decode cX0_mostPlayed 55 = .ok (.istore 8, 2) := by decide +kernel
theorem dX0_mostPlayed_57 : decode cX0_mostPlayed 57 = .ok (.iload 8, 2) := by decide +kernel
theorem dX0_mostPlayed_59 : decode cX0_mostPlayed 59 = .ok (.iload 5, 2) := by decide +kernel
theorem dX0_mostPlayed_61 : decode cX0_mostPlayed 61 = .ok (.if_icmp .gt 22, 3) := by decide +kernel
theorem dX0_mostPlayed_64 : decode cX0_mostPlayed 64 = .ok (.iload 8, 2) := by decide +kernel
theorem dX0_mostPlayed_66 : decode cX0_mostPlayed 66 = .ok (.iload 5, 2) := by decide +kernel
theorem dX0_mostPlayed_68 : decode cX0_mostPlayed 68 = .ok (.if_icmp .ne 23, 3) := by decide +kernel
theorem dX0_mostPlayed_71 : decode cX0_mostPlayed 71 = .ok (.iload 8, 2) := by decide +kernel
theorem dX0_mostPlayed_73 : decode cX0_mostPlayed 73 = .ok (.ifCond .le 18, 3) := by decide +kernel
theorem dX0_mostPlayed_76 : decode cX0_mostPlayed 76 = .ok (.iload 7, 2) := by decide +kernel
theorem dX0_mostPlayed_78 : decode cX0_mostPlayed 78 = .ok (.iload 4, 2) := by decide +kernel
theorem dX0_mostPlayed_80 : decode cX0_mostPlayed 80 = .ok (.if_icmp .ge 11, 3) := by decide +kernel
theorem dX0_mostPlayed_83 : decode cX0_mostPlayed 83 = .ok (.iload 7, 2) := by decide +kernel
theorem dX0_mostPlayed_85 : decode cX0_mostPlayed 85 = .ok (.istore 4, 2) := by decide +kernel
theorem dX0_mostPlayed_87 : decode cX0_mostPlayed 87 = .ok (.iload 8, 2) := by decide +kernel
theorem dX0_mostPlayed_89 : decode cX0_mostPlayed 89 = .ok (.istore 5, 2) := by decide +kernel
theorem dX0_mostPlayed_91 : decode cX0_mostPlayed 91 = .ok (.iinc 6 1, 3) := by decide +kernel
theorem dX0_mostPlayed_94 : decode cX0_mostPlayed 94 = .ok (.goto (-84), 3) := by decide +kernel
theorem dX0_mostPlayed_97 : decode cX0_mostPlayed 97 = .ok (.iload 4, 2) := by decide +kernel
theorem dX0_mostPlayed_99 : decode cX0_mostPlayed 99 = .ok (.ireturn, 1) := by decide +kernel
theorem dX1_init_0 : decode cX1_init 0 = .ok (.aload_n 0, 1) := by decide +kernel
theorem dX1_init_1 : decode cX1_init 1 = .ok (.invokespecial 1, 3) := by decide +kernel
theorem dX1_init_4 : decode cX1_init 4 = .ok (.aload_n 0, 1) := by decide +kernel
theorem dX1_init_5 : decode cX1_init 5 = .ok (.new 7, 3) := by decide +kernel
theorem dX1_init_8 : decode cX1_init 8 = .ok (.dup, 1) := by decide +kernel
theorem dX1_init_9 : decode cX1_init 9 = .ok (.invokespecial 9, 3) := by decide +kernel
theorem dX1_init_12 : decode cX1_init 12 = .ok (.putfield 10, 3) := by decide +kernel
theorem dX1_init_15 : decode cX1_init 15 = .ok (.aload_n 0, 1) := by decide +kernel
theorem dX1_init_16 : decode cX1_init 16 = .ok (.iconst 0, 1) := by decide +kernel
theorem dX1_init_17 : decode cX1_init 17 = .ok (.putfield 16, 3) := by decide +kernel
theorem dX1_init_20 : decode cX1_init 20 = .ok (.aload_n 0, 1) := by decide +kernel
theorem dX1_init_21 : decode cX1_init 21 = .ok (.lconst 0, 1) := by decide +kernel
theorem dX1_init_22 : decode cX1_init 22 = .ok (.putfield 20, 3) := by decide +kernel
theorem dX1_init_25 : decode cX1_init 25 = .ok (.aload_n 0, 1) := by decide +kernel
theorem dX1_init_26 : decode cX1_init 26 = .ok (.iconst 0, 1) := by decide +kernel
theorem dX1_init_27 : decode cX1_init 27 = .ok (.putfield 24, 3) := by decide +kernel
theorem dX1_init_30 : decode cX1_init 30 = .ok (.return_, 1) := by decide +kernel
theorem dX2_init_0 : decode cX2_init 0 = .ok (.aload_n 0, 1) := by decide +kernel
theorem dX2_init_1 : decode cX2_init 1 = .ok (.invokespecial 3, 3) := by decide +kernel
theorem dX2_init_4 : decode cX2_init 4 = .ok (.aload_n 0, 1) := by decide +kernel
theorem dX2_init_5 : decode cX2_init 5 = .ok (.bipush (-6), 2) := by decide +kernel
theorem dX2_init_7 : decode cX2_init 7 = .ok (.putfield 9, 3) := by decide +kernel
theorem dX2_init_10 : decode cX2_init 10 = .ok (.aload_n 0, 1) := by decide +kernel
theorem dX2_init_11 : decode cX2_init 11 = .ok (.bipush (-6), 2) := by decide +kernel
theorem dX2_init_13 : decode cX2_init 13 = .ok (.putfield 15, 3) := by decide +kernel
theorem dX2_init_16 : decode cX2_init 16 = .ok (.aload_n 0, 1) := by decide +kernel
theorem dX2_init_17 : decode cX2_init 17 = .ok (.lconst 0, 1) := by decide +kernel
theorem dX2_init_18 : decode cX2_init 18 = .ok (.putfield 18, 3) := by decide +kernel
theorem dX2_init_21 : decode cX2_init 21 = .ok (.return_, 1) := by decide +kernel
theorem dX2_passes_0 : decode cX2_passes 0 = .ok (.aload_n 0, 1) := by decide +kernel
theorem dX2_passes_1 : decode cX2_passes 1 = .ok (.lload_n 2, 1) := by decide +kernel
theorem dX2_passes_2 : decode cX2_passes 2 = .ok (.putfield 18, 3) := by decide +kernel
theorem dX2_passes_5 : decode cX2_passes 5 = .ok (.iconst 0, 1) := by decide +kernel
theorem dX2_passes_6 : decode cX2_passes 6 = .ok (.istore 5, 2) := by decide +kernel
theorem dX2_passes_8 : decode cX2_passes 8 = .ok (.iload 5, 2) := by decide +kernel
theorem dX2_passes_10 : decode cX2_passes 10 = .ok (.aload 4, 2) := by decide +kernel
theorem dX2_passes_12 : decode cX2_passes 12 = .ok (.invokevirtual 22, 3) := by decide +kernel
theorem dX2_passes_15 : decode cX2_passes 15 = .ok (.if_icmp .ge 94, 3) := by decide +kernel
theorem dX2_passes_18 : decode cX2_passes 18 = .ok (.iload 5, 2) := by decide +kernel
theorem dX2_passes_20 : decode cX2_passes 20 = .ok (.bipush 12, 2) := by decide +kernel
theorem dX2_passes_22 : decode cX2_passes 22 = .ok (.if_icmp .ge 87, 3) := by decide +kernel
theorem dX2_passes_25 : decode cX2_passes 25 = .ok (.aload_n 1, 1) := by decide +kernel
theorem dX2_passes_26 : decode cX2_passes 26 = .ok (.aload_n 0, 1) := by decide +kernel
theorem dX2_passes_27 : decode cX2_passes 27 = .ok (.getfield 18, 3) := by decide +kernel
theorem dX2_passes_30 : decode cX2_passes 30 = .ok (.aload 4, 2) := by decide +kernel
theorem dX2_passes_32 : decode cX2_passes 32 = .ok (.iload 5, 2) := by decide +kernel
theorem dX2_passes_34 : decode cX2_passes 34 = .ok (.invokevirtual 28, 3) := by decide +kernel
theorem dX2_passes_37 : decode cX2_passes 37 = .ok (.aload 4, 2) := by decide +kernel
theorem dX2_passes_39 : decode cX2_passes 39 = .ok (.iload 5, 2) := by decide +kernel
theorem dX2_passes_41 : decode cX2_passes 41 = .ok (.invokevirtual 32, 3) := by decide +kernel
theorem dX2_passes_44 : decode cX2_passes 44 = .ok (.invokestatic 35, 3) := by decide +kernel
theorem dX2_passes_47 : decode cX2_passes 47 = .ok (.istore 6, 2) := by decide +kernel
theorem dX2_passes_49 : decode cX2_passes 49 = .ok (.iload 6, 2) := by decide +kernel
theorem dX2_passes_51 : decode cX2_passes 51 = .ok (.ifCond .eq 17, 3) := by decide +kernel
theorem dX2_passes_54 : decode cX2_passes 54 = .ok (.aload_n 0, 1) := by decide +kernel
theorem dX2_passes_55 : decode cX2_passes 55 = .ok (.iload 5, 2) := by decide +kernel
theorem dX2_passes_57 : decode cX2_passes 57 = .ok (.putfield 9, 3) := by decide +kernel
theorem dX2_passes_60 : decode cX2_passes 60 = .ok (.aload_n 0, 1) := by decide +kernel
theorem dX2_passes_61 : decode cX2_passes 61 = .ok (.iload 6, 2) := by decide +kernel
theorem dX2_passes_63 : decode cX2_passes 63 = .ok (.putfield 15, 3) := by decide +kernel
theorem dX2_passes_66 : decode cX2_passes 66 = .ok (.iconst 0, 1) := by decide +kernel
theorem dX2_passes_67 : decode cX2_passes 67 = .ok (.ireturn, 1) := by decide +kernel
theorem dX2_passes_68 : decode cX2_passes 68 = .ok (.aload_n 0, 1) := by decide +kernel
theorem dX2_passes_69 : decode cX2_passes 69 = .ok (.aload_n 0, 1) := by decide +kernel
theorem dX2_passes_70 : decode cX2_passes 70 = .ok (.getfield 18, 3) := by decide +kernel
theorem dX2_passes_73 : decode cX2_passes 73 = .ok (.aload_n 0, 1) := by decide +kernel
theorem dX2_passes_74 : decode cX2_passes 74 = .ok (.getfield 18, 3) := by decide +kernel
theorem dX2_passes_77 : decode cX2_passes 77 = .ok (.aload 4, 2) := by decide +kernel
theorem dX2_passes_79 : decode cX2_passes 79 = .ok (.iload 5, 2) := by decide +kernel
theorem dX2_passes_81 : decode cX2_passes 81 = .ok (.invokevirtual 28, 3) := by decide +kernel
theorem dX2_passes_84 : decode cX2_passes 84 = .ok (.invokestatic 39, 3) := by decide +kernel
theorem dX2_passes_87 : decode cX2_passes 87 = .ok (.iconst 5, 1) := by decide +kernel
theorem dX2_passes_88 : decode cX2_passes 88 = .ok (.ishl, 1) := by decide +kernel
theorem dX2_passes_89 : decode cX2_passes 89 = .ok (.aload 4, 2) := by decide +kernel
theorem dX2_passes_91 : decode cX2_passes 91 = .ok (.iload 5, 2) := by decide +kernel
theorem dX2_passes_93 : decode cX2_passes 93 = .ok (.invokevirtual 32, 3) := by decide +kernel
theorem dX2_passes_96 : decode cX2_passes 96 = .ok (.ior, 1) := by decide +kernel
theorem dX2_passes_97 : decode cX2_passes 97 = .ok (.invokestatic 45, 3) := by decide +kernel
theorem dX2_passes_100 : decode cX2_passes 100 = .ok (.putfield 18, 3) := by decide +kernel
theorem dX2_passes_103 : decode cX2_passes 103 = .ok (.iinc 5 1, 3) := by decide +kernel
theorem dX2_passes_106 : decode cX2_passes 106 = .ok (.goto (-98), 3) := by decide +kernel
theorem dX2_passes_109 : decode cX2_passes 109 = .ok (.iconst 1, 1) := by decide +kernel
theorem dX2_passes_110 : decode cX2_passes 110 = .ok (.ireturn, 1) := by decide +kernel
theorem dX2_whyNot_0 : decode cX2_whyNot 0 = .ok (.aload_n 0, 1) := by decide +kernel
theorem dX2_whyNot_1 : decode cX2_whyNot 1 = .ok (.lload_n 1, 1) := by decide +kernel
theorem dX2_whyNot_2 : decode cX2_whyNot 2 = .ok (.invokevirtual 49, 3) := by decide +kernel
theorem dX2_whyNot_5 : decode cX2_whyNot 5 = .ok (.ifCond .eq 5, 3) := by decide +kernel
theorem dX2_whyNot_8 : decode cX2_whyNot 8 = .ok (.iconst 1, 1) := by decide +kernel
theorem dX2_whyNot_9 : decode cX2_whyNot 9 = .ok (.ireturn, 1) := by decide +kernel
theorem dX2_whyNot_10 : decode cX2_whyNot 10 = .ok (.lload_n 1, 1) := by decide +kernel
theorem dX2_whyNot_11 : decode cX2_whyNot 11 = .ok (.iload_n 3, 1) := by decide +kernel
theorem dX2_whyNot_12 : decode cX2_whyNot 12 = .ok (.invokestatic 39, 3) := by decide +kernel
theorem dX2_whyNot_15 : decode cX2_whyNot 15 = .ok (.istore 5, 2) := by decide +kernel
theorem dX2_whyNot_17 : decode cX2_whyNot 17 = .ok (.lload_n 1, 1) := by decide +kernel
theorem dX2_whyNot_18 : decode cX2_whyNot 18 = .ok (.invokestatic 55, 3) := by decide +kernel
theorem dX2_whyNot_21 : decode cX2_whyNot 21 = .ok (.istore 6, 2) := by decide +kernel
theorem dX2_whyNot_23 : decode cX2_whyNot 23 = .ok (.iload 5, 2) := by decide +kernel
theorem dX2_whyNot_25 : decode cX2_whyNot 25 = .ok (.bipush (-6), 2) := by decide +kernel
theorem dX2_whyNot_27 : decode cX2_whyNot 27 = .ok (.if_icmp .eq 12, 3) := by decide +kernel
theorem dX2_whyNot_30 : decode cX2_whyNot 30 = .ok (.iload 5, 2) := by decide +kernel
theorem dX2_whyNot_32 : decode cX2_whyNot 32 = .ok (.iconst 3, 1) := by decide +kernel
theorem dX2_whyNot_33 : decode cX2_whyNot 33 = .ok (.idiv, 1) := by decide +kernel
theorem dX2_whyNot_34 : decode cX2_whyNot 34 = .ok (.iload 6, 2) := by decide +kernel
theorem dX2_whyNot_36 : decode cX2_whyNot 36 = .ok (.if_icmp .eq 5, 3) := by decide +kernel
theorem dX2_whyNot_39 : decode cX2_whyNot 39 = .ok (.iconst 2, 1) := by decide +kernel
theorem dX2_whyNot_40 : decode cX2_whyNot 40 = .ok (.ireturn, 1) := by decide +kernel
theorem dX2_whyNot_41 : decode cX2_whyNot 41 = .ok (.lload_n 1, 1) := by decide +kernel
theorem dX2_whyNot_42 : decode cX2_whyNot 42 = .ok (.iload 5, 2) := by decide +kernel
theorem dX2_whyNot_44 : decode cX2_whyNot 44 = .ok (.invokestatic 58, 3) := by decide +kernel
theorem dX2_whyNot_47 : decode cX2_whyNot 47 = .ok (.istore 7, 2) := by decide +kernel
theorem dX2_whyNot_49 : decode cX2_whyNot 49 = .ok (.aload_n 0, 1) := by decide +kernel
theorem dX2_whyNot_50 : decode cX2_whyNot 50 = .ok (.iload 7, 2) := by decide +kernel
theorem dX2_whyNot_52 : decode cX2_whyNot 52 = .ok (.invokevirtual 61, 3) := by decide +kernel
theorem dX2_whyNot_55 : decode cX2_whyNot 55 = .ok (.iconst 3, 1) := by decide +kernel
theorem dX2_whyNot_56 : decode cX2_whyNot 56 = .ok (.if_icmp .ne 5, 3) := by decide +kernel
theorem dX2_whyNot_59 : decode cX2_whyNot 59 = .ok (.iconst 3, 1) := by decide +kernel
theorem dX2_whyNot_60 : decode cX2_whyNot 60 = .ok (.ireturn, 1) := by decide +kernel
theorem dX2_whyNot_61 : decode cX2_whyNot 61 = .ok (.iconst 1, 1) := by decide +kernel
theorem dX2_whyNot_62 : decode cX2_whyNot 62 = .ok (.iload 4, 2) := by decide +kernel
theorem dX2_whyNot_64 : decode cX2_whyNot 64 = .ok (.ishl, 1) := by decide +kernel
theorem dX2_whyNot_65 : decode cX2_whyNot 65 = .ok (.istore 8, 2) := by decide +kernel
theorem dX2_whyNot_67 : decode cX2_whyNot 67 = .ok (.aload_n 0, 1) := by decide +kernel
theorem dX2_whyNot_68 : decode cX2_whyNot 68 = .ok (.iload_n 3, 1) := by decide +kernel
theorem dX2_whyNot_69 : decode cX2_whyNot 69 = .ok (.iload 7, 2) := by decide +kernel
theorem dX2_whyNot_71 : decode cX2_whyNot 71 = .ok (.iconst 0, 1) := by decide +kernel
theorem dX2_whyNot_72 : decode cX2_whyNot 72 = .ok (.iconst 0, 1) := by decide +kernel
theorem dX2_whyNot_73 : decode cX2_whyNot 73 = .ok (.invokevirtual 64, 3) := by decide +kernel
theorem dX2_whyNot_76 : decode cX2_whyNot 76 = .ok (.iload 8, 2) := by decide +kernel
theorem dX2_whyNot_78 : decode cX2_whyNot 78 = .ok (.iand, 1) := by decide +kernel
theorem dX2_whyNot_79 : decode cX2_whyNot 79 = .ok (.ifCond .ne 5, 3) := by decide +kernel
theorem dX2_whyNot_82 : decode cX2_whyNot 82 = .ok (.iconst 4, 1) := by decide +kernel
theorem dX2_whyNot_83 : decode cX2_whyNot 83 = .ok (.ireturn, 1) := by decide +kernel
theorem dX2_whyNot_84 : decode cX2_whyNot 84 = .ok (.lload_n 1, 1) := by decide +kernel
theorem dX2_whyNot_85 : decode cX2_whyNot 85 = .ok (.iload 6, 2) := by decide +kernel
theorem dX2_whyNot_87 : decode cX2_whyNot 87 = .ok (.invokestatic 68, 3) := by decide +kernel
theorem dX2_whyNot_90 : decode cX2_whyNot 90 = .ok (.istore 9, 2) := by decide +kernel
theorem dX2_whyNot_92 : decode cX2_whyNot 92 = .ok (.aload_n 0, 1) := by decide +kernel
theorem dX2_whyNot_93 : decode cX2_whyNot 93 = .ok (.iload_n 3, 1) := by decide +kernel
theorem dX2_whyNot_94 : decode cX2_whyNot 94 = .ok (.iload 7, 2) := by decide +kernel
theorem dX2_whyNot_96 : decode cX2_whyNot 96 = .ok (.iconst 0, 1) := by decide +kernel
theorem dX2_whyNot_97 : decode cX2_whyNot 97 = .ok (.iload 9, 2) := by decide +kernel
theorem dX2_whyNot_99 : decode cX2_whyNot 99 = .ok (.lload_n 1, 1) := by decide +kernel
theorem dX2_whyNot_100 : decode cX2_whyNot 100 = .ok (.iconst 1, 1) := by decide +kernel
theorem dX2_whyNot_101 : decode cX2_whyNot 101 = .ok (.iload 6, 2) := by decide +kernel
theorem dX2_whyNot_103 : decode cX2_whyNot 103 = .ok (.isub, 1) := by decide +kernel
theorem dX2_whyNot_104 : decode cX2_whyNot 104 = .ok (.invokestatic 68, 3) := by decide +kernel
theorem dX2_whyNot_107 : decode cX2_whyNot 107 = .ok (.ior, 1) := by decide +kernel
theorem dX2_whyNot_108 : decode cX2_whyNot 108 = .ok (.invokevirtual 64, 3) := by decide +kernel
theorem dX2_whyNot_111 : decode cX2_whyNot 111 = .ok (.iload 8, 2) := by decide +kernel
theorem dX2_whyNot_113 : decode cX2_whyNot 113 = .ok (.iand, 1) := by decide +kernel
theorem dX2_whyNot_114 : decode cX2_whyNot 114 = .ok (.ifCond .ne 5, 3) := by decide +kernel
theorem dX2_whyNot_117 : decode cX2_whyNot 117 = .ok (.iconst 5, 1) := by decide +kernel
theorem dX2_whyNot_118 : decode cX2_whyNot 118 = .ok (.ireturn, 1) := by decide +kernel
theorem dX2_whyNot_119 : decode cX2_whyNot 119 = .ok (.iload 9, 2) := by decide +kernel
theorem dX2_whyNot_121 : decode cX2_whyNot 121 = .ok (.iload 8, 2) := by decide +kernel
theorem dX2_whyNot_123 : decode cX2_whyNot 123 = .ok (.iand, 1) := by decide +kernel
theorem dX2_whyNot_124 : decode cX2_whyNot 124 = .ok (.ifCond .eq 8, 3) := by decide +kernel
theorem dX2_whyNot_127 : decode cX2_whyNot 127 = .ok (.bipush 6, 2) := by decide +kernel
theorem dX2_whyNot_129 : decode cX2_whyNot 129 = .ok (.goto 4, 3) := by decide +kernel
theorem dX2_whyNot_132 : decode cX2_whyNot 132 = .ok (.iconst 0, 1) := by decide +kernel
theorem dX2_whyNot_133 : decode cX2_whyNot 133 = .ok (.ireturn, 1) := by decide +kernel
theorem dX3_init_0 : decode cX3_init 0 = .ok (.aload_n 0, 1) := by decide +kernel
theorem dX3_init_1 : decode cX3_init 1 = .ok (.invokespecial 3, 3) := by decide +kernel
theorem dX3_init_4 : decode cX3_init 4 = .ok (.aload_n 0, 1) := by decide +kernel
theorem dX3_init_5 : decode cX3_init 5 = .ok (.bipush 48, 2) := by decide +kernel
theorem dX3_init_7 : decode cX3_init 7 = .ok (.newarray .byte, 2) := by decide +kernel
theorem dX3_init_9 : decode cX3_init 9 = .ok (.putfield 9, 3) := by decide +kernel
theorem dX3_init_12 : decode cX3_init 12 = .ok (.aload_n 0, 1) := by decide +kernel
theorem dX3_init_13 : decode cX3_init 13 = .ok (.iconst 0, 1) := by decide +kernel
theorem dX3_init_14 : decode cX3_init 14 = .ok (.putfield 15, 3) := by decide +kernel
theorem dX3_init_17 : decode cX3_init 17 = .ok (.return_, 1) := by decide +kernel
theorem dX3_add_0 : decode cX3_add 0 = .ok (.aload_n 0, 1) := by decide +kernel
theorem dX3_add_1 : decode cX3_add 1 = .ok (.getfield 15, 3) := by decide +kernel
theorem dX3_add_4 : decode cX3_add 4 = .ok (.ifCond .lt 15, 3) := by decide +kernel
theorem dX3_add_7 : decode cX3_add 7 = .ok (.aload_n 0, 1) := by decide +kernel
theorem dX3_add_8 : decode cX3_add 8 = .ok (.getfield 15, 3) := by decide +kernel
theorem dX3_add_11 : decode cX3_add 11 = .ok (.aload_n 0, 1) := by decide +kernel
theorem dX3_add_12 : decode cX3_add 12 = .ok (.getfield 9, 3) := by decide +kernel
theorem dX3_add_15 : decode cX3_add 15 = .ok (.arraylength, 1) := by decide +kernel
theorem dX3_add_16 : decode cX3_add 16 = .ok (.if_icmp .lt 5, 3) := by decide +kernel
theorem dX3_add_19 : decode cX3_add 19 = .ok (.iconst 0, 1) := by decide +kernel
theorem dX3_add_20 : decode cX3_add 20 = .ok (.ireturn, 1) := by decide +kernel
theorem dX3_add_21 : decode cX3_add 21 = .ok (.aload_n 0, 1) := by decide +kernel
theorem dX3_add_22 : decode cX3_add 22 = .ok (.getfield 9, 3) := by decide +kernel
theorem dX3_add_25 : decode cX3_add 25 = .ok (.aload_n 0, 1) := by decide +kernel
theorem dX3_add_26 : decode cX3_add 26 = .ok (.getfield 15, 3) := by decide +kernel
theorem dX3_add_29 : decode cX3_add 29 = .ok (.iload_n 1, 1) := by decide +kernel
theorem dX3_add_30 : decode cX3_add 30 = .ok (.i2b, 1) := by decide +kernel
theorem dX3_add_31 : decode cX3_add 31 = .ok (.bastore, 1) := by decide +kernel
theorem dX3_add_32 : decode cX3_add 32 = .ok (.aload_n 0, 1) := by decide +kernel
theorem dX3_add_33 : decode cX3_add 33 = .ok (.dup, 1) := by decide +kernel
theorem dX3_add_34 : decode cX3_add 34 = .ok (.getfield 15, 3) := by decide +kernel
theorem dX3_add_37 : decode cX3_add 37 = .ok (.iconst 1, 1) := by decide +kernel
theorem dX3_add_38 : decode cX3_add 38 = .ok (.iadd, 1) := by decide +kernel
theorem dX3_add_39 : decode cX3_add 39 = .ok (.putfield 15, 3) := by decide +kernel
theorem dX3_add_42 : decode cX3_add 42 = .ok (.iconst 1, 1) := by decide +kernel
theorem dX3_add_43 : decode cX3_add 43 = .ok (.ireturn, 1) := by decide +kernel
theorem dX3_clear_0 : decode cX3_clear 0 = .ok (.aload_n 0, 1) := by decide +kernel
theorem dX3_clear_1 : decode cX3_clear 1 = .ok (.iconst 0, 1) := by decide +kernel
theorem dX3_clear_2 : decode cX3_clear 2 = .ok (.putfield 15, 3) := by decide +kernel
theorem dX3_clear_5 : decode cX3_clear 5 = .ok (.return_, 1) := by decide +kernel
theorem dX3_signAt_0 : decode cX3_signAt 0 = .ok (.iload_n 1, 1) := by decide +kernel
theorem dX3_signAt_1 : decode cX3_signAt 1 = .ok (.ifCond .lt 20, 3) := by decide +kernel
theorem dX3_signAt_4 : decode cX3_signAt 4 = .ok (.iload_n 1, 1) := by decide +kernel
theorem dX3_signAt_5 : decode cX3_signAt 5 = .ok (.aload_n 0, 1) := by decide +kernel
theorem dX3_signAt_6 : decode cX3_signAt 6 = .ok (.getfield 15, 3) := by decide +kernel
theorem dX3_signAt_9 : decode cX3_signAt 9 = .ok (.if_icmp .ge 12, 3) := by decide +kernel
theorem dX3_signAt_12 : decode cX3_signAt 12 = .ok (.iload_n 1, 1) := by decide +kernel
theorem dX3_signAt_13 : decode cX3_signAt 13 = .ok (.aload_n 0, 1) := by decide +kernel
theorem dX3_signAt_14 : decode cX3_signAt 14 = .ok (.getfield 9, 3) := by decide +kernel
theorem dX3_signAt_17 : decode cX3_signAt 17 = .ok (.arraylength, 1) := by decide +kernel
theorem dX3_signAt_18 : decode cX3_signAt 18 = .ok (.if_icmp .lt 7, 3) := by decide +kernel
theorem dX3_signAt_21 : decode cX3_signAt 21 = .ok (.iconst 0, 1) := by decide +kernel
theorem dX3_signAt_22 : decode cX3_signAt 22 = .ok (.goto 9, 3) := by decide +kernel
theorem dX3_signAt_25 : decode cX3_signAt 25 = .ok (.aload_n 0, 1) := by decide +kernel
theorem dX3_signAt_26 : decode cX3_signAt 26 = .ok (.getfield 9, 3) := by decide +kernel
theorem dX3_signAt_29 : decode cX3_signAt 29 = .ok (.iload_n 1, 1) := by decide +kernel
theorem dX3_signAt_30 : decode cX3_signAt 30 = .ok (.baload, 1) := by decide +kernel
theorem dX3_signAt_31 : decode cX3_signAt 31 = .ok (.ireturn, 1) := by decide +kernel
theorem dX3_isColumn_0 : decode cX3_isColumn 0 = .ok (.iload_n 0, 1) := by decide +kernel
theorem dX3_isColumn_1 : decode cX3_isColumn 1 = .ok (.bipush 97, 2) := by decide +kernel
theorem dX3_isColumn_3 : decode cX3_isColumn 3 = .ok (.if_icmp .lt 13, 3) := by decide +kernel
theorem dX3_isColumn_6 : decode cX3_isColumn 6 = .ok (.iload_n 0, 1) := by decide +kernel
theorem dX3_isColumn_7 : decode cX3_isColumn 7 = .ok (.bipush 101, 2) := by decide +kernel
theorem dX3_isColumn_9 : decode cX3_isColumn 9 = .ok (.if_icmp .gt 7, 3) := by decide +kernel
theorem dX3_isColumn_12 : decode cX3_isColumn 12 = .ok (.iconst 1, 1) := by decide +kernel
theorem dX3_isColumn_13 : decode cX3_isColumn 13 = .ok (.goto 4, 3) := by decide +kernel
theorem dX3_isColumn_16 : decode cX3_isColumn 16 = .ok (.iconst 0, 1) := by decide +kernel
theorem dX3_isColumn_17 : decode cX3_isColumn 17 = .ok (.ireturn, 1) := by decide +kernel
theorem dX3_isLine_0 : decode cX3_isLine 0 = .ok (.iload_n 0, 1) := by decide +kernel
theorem dX3_isLine_1 : decode cX3_isLine 1 = .ok (.bipush 49, 2) := by decide +kernel
theorem dX3_isLine_3 : decode cX3_isLine 3 = .ok (.if_icmp .lt 13, 3) := by decide +kernel
theorem dX3_isLine_6 : decode cX3_isLine 6 = .ok (.iload_n 0, 1) := by decide +kernel
theorem dX3_isLine_7 : decode cX3_isLine 7 = .ok (.bipush 53, 2) := by decide +kernel
theorem dX3_isLine_9 : decode cX3_isLine 9 = .ok (.if_icmp .gt 7, 3) := by decide +kernel
theorem dX3_isLine_12 : decode cX3_isLine 12 = .ok (.iconst 1, 1) := by decide +kernel
theorem dX3_isLine_13 : decode cX3_isLine 13 = .ok (.goto 4, 3) := by decide +kernel
theorem dX3_isLine_16 : decode cX3_isLine 16 = .ok (.iconst 0, 1) := by decide +kernel
theorem dX3_isLine_17 : decode cX3_isLine 17 = .ok (.ireturn, 1) := by decide +kernel
theorem dX3_cellAt_0 : decode cX3_cellAt 0 = .ok (.aload_n 0, 1) := by decide +kernel
theorem dX3_cellAt_1 : decode cX3_cellAt 1 = .ok (.iload_n 1, 1) := by decide +kernel
theorem dX3_cellAt_2 : decode cX3_cellAt 2 = .ok (.invokevirtual 19, 3) := by decide +kernel
theorem dX3_cellAt_5 : decode cX3_cellAt 5 = .ok (.bipush 97, 2) := by decide +kernel
theorem dX3_cellAt_7 : decode cX3_cellAt 7 = .ok (.isub, 1) := by decide +kernel
theorem dX3_cellAt_8 : decode cX3_cellAt 8 = .ok (.iconst 5, 1) := by decide +kernel
theorem dX3_cellAt_9 : decode cX3_cellAt 9 = .ok (.aload_n 0, 1) := by decide +kernel
theorem dX3_cellAt_10 : decode cX3_cellAt 10 = .ok (.iload_n 1, 1) := by decide +kernel
theorem dX3_cellAt_11 : decode cX3_cellAt 11 = .ok (.iconst 1, 1) := by decide +kernel
theorem dX3_cellAt_12 : decode cX3_cellAt 12 = .ok (.iadd, 1) := by decide +kernel
theorem dX3_cellAt_13 : decode cX3_cellAt 13 = .ok (.invokevirtual 19, 3) := by decide +kernel
theorem dX3_cellAt_16 : decode cX3_cellAt 16 = .ok (.bipush 49, 2) := by decide +kernel
theorem dX3_cellAt_18 : decode cX3_cellAt 18 = .ok (.isub, 1) := by decide +kernel
theorem dX3_cellAt_19 : decode cX3_cellAt 19 = .ok (.imul, 1) := by decide +kernel
theorem dX3_cellAt_20 : decode cX3_cellAt 20 = .ok (.iadd, 1) := by decide +kernel
theorem dX3_cellAt_21 : decode cX3_cellAt 21 = .ok (.ireturn, 1) := by decide +kernel
theorem dX3_boardFault_0 : decode cX3_boardFault 0 = .ok (.iconst 0, 1) := by decide +kernel
theorem dX3_boardFault_1 : decode cX3_boardFault 1 = .ok (.istore_n 1, 1) := by decide +kernel
theorem dX3_boardFault_2 : decode cX3_boardFault 2 = .ok (.iconst 0, 1) := by decide +kernel
theorem dX3_boardFault_3 : decode cX3_boardFault 3 = .ok (.istore_n 2, 1) := by decide +kernel
theorem dX3_boardFault_4 : decode cX3_boardFault 4 = .ok (.iconst 0, 1) := by decide +kernel
theorem dX3_boardFault_5 : decode cX3_boardFault 5 = .ok (.istore_n 3, 1) := by decide +kernel
theorem dX3_boardFault_6 : decode cX3_boardFault 6 = .ok (.iconst 0, 1) := by decide +kernel
theorem dX3_boardFault_7 : decode cX3_boardFault 7 = .ok (.istore 4, 2) := by decide +kernel
theorem dX3_boardFault_9 : decode cX3_boardFault 9 = .ok (.iload 4, 2) := by decide +kernel
theorem dX3_boardFault_11 : decode cX3_boardFault 11 = .ok (.aload_n 0, 1) := by decide +kernel
theorem dX3_boardFault_12 : decode cX3_boardFault 12 = .ok (.getfield 15, 3) := by decide +kernel
theorem dX3_boardFault_15 : decode cX3_boardFault 15 = .ok (.if_icmp .ge 90, 3) := by decide +kernel
theorem dX3_boardFault_18 : decode cX3_boardFault 18 = .ok (.aload_n 0, 1) := by decide +kernel
theorem dX3_boardFault_19 : decode cX3_boardFault 19 = .ok (.iload 4, 2) := by decide +kernel
theorem dX3_boardFault_21 : decode cX3_boardFault 21 = .ok (.invokevirtual 19, 3) := by decide +kernel
theorem dX3_boardFault_24 : decode cX3_boardFault 24 = .ok (.istore 5, 2) := by decide +kernel
theorem dX3_boardFault_26 : decode cX3_boardFault 26 = .ok (.iload_n 3, 1) := by decide +kernel
theorem dX3_boardFault_27 : decode cX3_boardFault 27 = .ok (.ifCond .ne 16, 3) := by decide +kernel
theorem dX3_boardFault_30 : decode cX3_boardFault 30 = .ok (.aload_n 0, 1) := by decide +kernel
theorem dX3_boardFault_31 : decode cX3_boardFault 31 = .ok (.iload 4, 2) := by decide +kernel
theorem dX3_boardFault_33 : decode cX3_boardFault 33 = .ok (.iload 5, 2) := by decide +kernel
theorem dX3_boardFault_35 : decode cX3_boardFault 35 = .ok (.iload_n 1, 1) := by decide +kernel
theorem dX3_boardFault_36 : decode cX3_boardFault 36 = .ok (.iload_n 2, 1) := by decide +kernel
theorem dX3_boardFault_37 : decode cX3_boardFault 37 = .ok (.invokevirtual 23, 3) := by decide +kernel
theorem dX3_boardFault_40 : decode cX3_boardFault 40 = .ok (.ifCond .ne 6, 3) := by decide +kernel
theorem dX3_boardFault_43 : decode cX3_boardFault 43 = .ok (.iload 4, 2) := by decide +kernel
theorem dX3_boardFault_45 : decode cX3_boardFault 45 = .ok (.ireturn, 1) := by decide +kernel
theorem dX3_boardFault_46 : decode cX3_boardFault 46 = .ok (.iload 5, 2) := by decide +kernel
theorem dX3_boardFault_48 : decode cX3_boardFault 48 = .ok (.bipush 33, 2) := by decide +kernel
theorem dX3_boardFault_50 : decode cX3_boardFault 50 = .ok (.if_icmp .ne 8, 3) := by decide +kernel
theorem dX3_boardFault_53 : decode cX3_boardFault 53 = .ok (.iconst 1, 1) := by decide +kernel
theorem dX3_boardFault_54 : decode cX3_boardFault 54 = .ok (.istore_n 3, 1) := by decide +kernel
theorem dX3_boardFault_55 : decode cX3_boardFault 55 = .ok (.goto 44, 3) := by decide +kernel
theorem dX3_boardFault_58 : decode cX3_boardFault 58 = .ok (.iload 4, 2) := by decide +kernel
theorem dX3_boardFault_60 : decode cX3_boardFault 60 = .ok (.iconst 4, 1) := by decide +kernel
theorem dX3_boardFault_61 : decode cX3_boardFault 61 = .ok (.irem, 1) := by decide +kernel
theorem dX3_boardFault_62 : decode cX3_boardFault 62 = .ok (.ifCond .ne 16, 3) := by decide +kernel
theorem dX3_boardFault_65 : decode cX3_boardFault 65 = .ok (.iload_n 1, 1) := by decide +kernel
theorem dX3_boardFault_66 : decode cX3_boardFault 66 = .ok (.iconst 1, 1) := by decide +kernel
theorem dX3_boardFault_67 : decode cX3_boardFault 67 = .ok (.iload 5, 2) := by decide +kernel
theorem dX3_boardFault_69 : decode cX3_boardFault 69 = .ok (.bipush 48, 2) := by decide +kernel
theorem dX3_boardFault_71 : decode cX3_boardFault 71 = .ok (.isub, 1) := by decide +kernel
theorem dX3_boardFault_72 : decode cX3_boardFault 72 = .ok (.ishl, 1) := by decide +kernel
theorem dX3_boardFault_73 : decode cX3_boardFault 73 = .ok (.ior, 1) := by decide +kernel
theorem dX3_boardFault_74 : decode cX3_boardFault 74 = .ok (.istore_n 1, 1) := by decide +kernel
theorem dX3_boardFault_75 : decode cX3_boardFault 75 = .ok (.goto 24, 3) := by decide +kernel
theorem dX3_boardFault_78 : decode cX3_boardFault 78 = .ok (.iload 4, 2) := by decide +kernel
theorem dX3_boardFault_80 : decode cX3_boardFault 80 = .ok (.iconst 4, 1) := by decide +kernel
theorem dX3_boardFault_81 : decode cX3_boardFault 81 = .ok (.irem, 1) := by decide +kernel
theorem dX3_boardFault_82 : decode cX3_boardFault 82 = .ok (.iconst 2, 1) := by decide +kernel
theorem dX3_boardFault_83 : decode cX3_boardFault 83 = .ok (.if_icmp .ne 16, 3) := by decide +kernel
theorem dX3_boardFault_86 : decode cX3_boardFault 86 = .ok (.iload_n 2, 1) := by decide +kernel
theorem dX3_boardFault_87 : decode cX3_boardFault 87 = .ok (.iconst 1, 1) := by decide +kernel
theorem dX3_boardFault_88 : decode cX3_boardFault 88 = .ok (.aload_n 0, 1) := by decide +kernel
theorem dX3_boardFault_89 : decode cX3_boardFault 89 = .ok (.iload 4, 2) := by decide +kernel
theorem dX3_boardFault_91 : decode cX3_boardFault 91 = .ok (.iconst 1, 1) := by decide +kernel
theorem dX3_boardFault_92 : decode cX3_boardFault 92 = .ok (.isub, 1) := by decide +kernel
theorem dX3_boardFault_93 : decode cX3_boardFault 93 = .ok (.invokevirtual 27, 3) := by decide +kernel
theorem dX3_boardFault_96 : decode cX3_boardFault 96 = .ok (.ishl, 1) := by decide +kernel
theorem dX3_boardFault_97 : decode cX3_boardFault 97 = .ok (.ior, 1) := by decide +kernel
theorem dX3_boardFault_98 : decode cX3_boardFault 98 = .ok (.istore_n 2, 1) := by decide +kernel
theorem dX3_boardFault_99 : decode cX3_boardFault 99 = .ok (.iinc 4 1, 3) := by decide +kernel
theorem dX3_boardFault_102 : decode cX3_boardFault 102 = .ok (.goto (-93), 3) := by decide +kernel
theorem dX3_boardFault_105 : decode cX3_boardFault 105 = .ok (.iload_n 3, 1) := by decide +kernel
theorem dX3_boardFault_106 : decode cX3_boardFault 106 = .ok (.ifCond .ne 12, 3) := by decide +kernel
theorem dX3_boardFault_109 : decode cX3_boardFault 109 = .ok (.aload_n 0, 1) := by decide +kernel
theorem dX3_boardFault_110 : decode cX3_boardFault 110 = .ok (.getfield 15, 3) := by decide +kernel
theorem dX3_boardFault_113 : decode cX3_boardFault 113 = .ok (.iconst 4, 1) := by decide +kernel
theorem dX3_boardFault_114 : decode cX3_boardFault 114 = .ok (.irem, 1) := by decide +kernel
theorem dX3_boardFault_115 : decode cX3_boardFault 115 = .ok (.ifCond .ne 7, 3) := by decide +kernel
theorem dX3_boardFault_118 : decode cX3_boardFault 118 = .ok (.iconst 1, 1) := by decide +kernel
theorem dX3_boardFault_119 : decode cX3_boardFault 119 = .ok (.goto 4, 3) := by decide +kernel
theorem dX3_boardFault_122 : decode cX3_boardFault 122 = .ok (.iconst 0, 1) := by decide +kernel
theorem dX3_boardFault_123 : decode cX3_boardFault 123 = .ok (.istore 4, 2) := by decide +kernel
theorem dX3_boardFault_125 : decode cX3_boardFault 125 = .ok (.bipush 9, 2) := by decide +kernel
theorem dX3_boardFault_127 : decode cX3_boardFault 127 = .ok (.istore 5, 2) := by decide +kernel
theorem dX3_boardFault_129 : decode cX3_boardFault 129 = .ok (.iload 4, 2) := by decide +kernel
theorem dX3_boardFault_131 : decode cX3_boardFault 131 = .ok (.ifCond .eq 17, 3) := by decide +kernel
theorem dX3_boardFault_134 : decode cX3_boardFault 134 = .ok (.iload_n 1, 1) := by decide +kernel
theorem dX3_boardFault_135 : decode cX3_boardFault 135 = .ok (.iload 5, 2) := by decide +kernel
theorem dX3_boardFault_137 : decode cX3_boardFault 137 = .ok (.iand, 1) := by decide +kernel
theorem dX3_boardFault_138 : decode cX3_boardFault 138 = .ok (.iload 5, 2) := by decide +kernel
theorem dX3_boardFault_140 : decode cX3_boardFault 140 = .ok (.if_icmp .ne 8, 3) := by decide +kernel
theorem dX3_boardFault_143 : decode cX3_boardFault 143 = .ok (.bipush (-6), 2) := by decide +kernel
theorem dX3_boardFault_145 : decode cX3_boardFault 145 = .ok (.goto 7, 3) := by decide +kernel
theorem dX3_boardFault_148 : decode cX3_boardFault 148 = .ok (.aload_n 0, 1) := by decide +kernel
theorem dX3_boardFault_149 : decode cX3_boardFault 149 = .ok (.getfield 15, 3) := by decide +kernel
theorem dX3_boardFault_152 : decode cX3_boardFault 152 = .ok (.ireturn, 1) := by decide +kernel
theorem dX3_fitsBoard_0 : decode cX3_fitsBoard 0 = .ok (.iload_n 1, 1) := by decide +kernel
theorem dX3_fitsBoard_1 : decode cX3_fitsBoard 1 = .ok (.iconst 4, 1) := by decide +kernel
theorem dX3_fitsBoard_2 : decode cX3_fitsBoard 2 = .ok (.irem, 1) := by decide +kernel
theorem dX3_fitsBoard_3 : decode cX3_fitsBoard 3 = .ok (.tableswitch 93 0 2 #[25, 60, 65], 25) := by decide +kernel
theorem dX3_fitsBoard_28 : decode cX3_fitsBoard 28 = .ok (.iload_n 2, 1) := by decide +kernel
theorem dX3_fitsBoard_29 : decode cX3_fitsBoard 29 = .ok (.bipush 33, 2) := by decide +kernel
theorem dX3_fitsBoard_31 : decode cX3_fitsBoard 31 = .ok (.if_icmp .eq 26, 3) := by decide +kernel
theorem dX3_fitsBoard_34 : decode cX3_fitsBoard 34 = .ok (.iload_n 2, 1) := by decide +kernel
theorem dX3_fitsBoard_35 : decode cX3_fitsBoard 35 = .ok (.bipush 48, 2) := by decide +kernel
theorem dX3_fitsBoard_37 : decode cX3_fitsBoard 37 = .ok (.if_icmp .lt 24, 3) := by decide +kernel
theorem dX3_fitsBoard_40 : decode cX3_fitsBoard 40 = .ok (.iload_n 2, 1) := by decide +kernel
theorem dX3_fitsBoard_41 : decode cX3_fitsBoard 41 = .ok (.bipush 53, 2) := by decide +kernel
theorem dX3_fitsBoard_43 : decode cX3_fitsBoard 43 = .ok (.if_icmp .gt 18, 3) := by decide +kernel
theorem dX3_fitsBoard_46 : decode cX3_fitsBoard 46 = .ok (.iload_n 3, 1) := by decide +kernel
theorem dX3_fitsBoard_47 : decode cX3_fitsBoard 47 = .ok (.iconst 1, 1) := by decide +kernel
theorem dX3_fitsBoard_48 : decode cX3_fitsBoard 48 = .ok (.iload_n 2, 1) := by decide +kernel
theorem dX3_fitsBoard_49 : decode cX3_fitsBoard 49 = .ok (.bipush 48, 2) := by decide +kernel
theorem dX3_fitsBoard_51 : decode cX3_fitsBoard 51 = .ok (.isub, 1) := by decide +kernel
theorem dX3_fitsBoard_52 : decode cX3_fitsBoard 52 = .ok (.ishl, 1) := by decide +kernel
theorem dX3_fitsBoard_53 : decode cX3_fitsBoard 53 = .ok (.iand, 1) := by decide +kernel
theorem dX3_fitsBoard_54 : decode cX3_fitsBoard 54 = .ok (.ifCond .ne 7, 3) := by decide +kernel
theorem dX3_fitsBoard_57 : decode cX3_fitsBoard 57 = .ok (.iconst 1, 1) := by decide +kernel
theorem dX3_fitsBoard_58 : decode cX3_fitsBoard 58 = .ok (.goto 4, 3) := by decide +kernel
theorem dX3_fitsBoard_61 : decode cX3_fitsBoard 61 = .ok (.iconst 0, 1) := by decide +kernel
theorem dX3_fitsBoard_62 : decode cX3_fitsBoard 62 = .ok (.ireturn, 1) := by decide +kernel
theorem dX3_fitsBoard_63 : decode cX3_fitsBoard 63 = .ok (.iload_n 2, 1) := by decide +kernel
theorem dX3_fitsBoard_64 : decode cX3_fitsBoard 64 = .ok (.invokestatic 30, 3) := by decide +kernel
theorem dX3_fitsBoard_67 : decode cX3_fitsBoard 67 = .ok (.ireturn, 1) := by decide +kernel
theorem dX3_fitsBoard_68 : decode cX3_fitsBoard 68 = .ok (.iload_n 2, 1) := by decide +kernel
theorem dX3_fitsBoard_69 : decode cX3_fitsBoard 69 = .ok (.invokestatic 34, 3) := by decide +kernel
theorem dX3_fitsBoard_72 : decode cX3_fitsBoard 72 = .ok (.ifCond .eq 22, 3) := by decide +kernel
theorem dX3_fitsBoard_75 : decode cX3_fitsBoard 75 = .ok (.iload 4, 2) := by decide +kernel
theorem dX3_fitsBoard_77 : decode cX3_fitsBoard 77 = .ok (.iconst 1, 1) := by decide +kernel
theorem dX3_fitsBoard_78 : decode cX3_fitsBoard 78 = .ok (.aload_n 0, 1) := by decide +kernel
theorem dX3_fitsBoard_79 : decode cX3_fitsBoard 79 = .ok (.iload_n 1, 1) := by decide +kernel
theorem dX3_fitsBoard_80 : decode cX3_fitsBoard 80 = .ok (.iconst 1, 1) := by decide +kernel
theorem dX3_fitsBoard_81 : decode cX3_fitsBoard 81 = .ok (.isub, 1) := by decide +kernel
theorem dX3_fitsBoard_82 : decode cX3_fitsBoard 82 = .ok (.invokevirtual 27, 3) := by decide +kernel
theorem dX3_fitsBoard_85 : decode cX3_fitsBoard 85 = .ok (.ishl, 1) := by decide +kernel
theorem dX3_fitsBoard_86 : decode cX3_fitsBoard 86 = .ok (.iand, 1) := by decide +kernel
theorem dX3_fitsBoard_87 : decode cX3_fitsBoard 87 = .ok (.ifCond .ne 7, 3) := by decide +kernel
theorem dX3_fitsBoard_90 : decode cX3_fitsBoard 90 = .ok (.iconst 1, 1) := by decide +kernel
theorem dX3_fitsBoard_91 : decode cX3_fitsBoard 91 = .ok (.goto 4, 3) := by decide +kernel
theorem dX3_fitsBoard_94 : decode cX3_fitsBoard 94 = .ok (.iconst 0, 1) := by decide +kernel
theorem dX3_fitsBoard_95 : decode cX3_fitsBoard 95 = .ok (.ireturn, 1) := by decide +kernel
theorem dX3_fitsBoard_96 : decode cX3_fitsBoard 96 = .ok (.iload_n 2, 1) := by decide +kernel
theorem dX3_fitsBoard_97 : decode cX3_fitsBoard 97 = .ok (.bipush 48, 2) := by decide +kernel
theorem dX3_fitsBoard_99 : decode cX3_fitsBoard 99 = .ok (.if_icmp .lt 13, 3) := by decide +kernel
theorem dX3_fitsBoard_102 : decode cX3_fitsBoard 102 = .ok (.iload_n 2, 1) := by decide +kernel
theorem dX3_fitsBoard_103 : decode cX3_fitsBoard 103 = .ok (.bipush 57, 2) := by decide +kernel
theorem dX3_fitsBoard_105 : decode cX3_fitsBoard 105 = .ok (.if_icmp .gt 7, 3) := by decide +kernel
theorem dX3_fitsBoard_108 : decode cX3_fitsBoard 108 = .ok (.iconst 1, 1) := by decide +kernel
theorem dX3_fitsBoard_109 : decode cX3_fitsBoard 109 = .ok (.goto 4, 3) := by decide +kernel
theorem dX3_fitsBoard_112 : decode cX3_fitsBoard 112 = .ok (.iconst 0, 1) := by decide +kernel
theorem dX3_fitsBoard_113 : decode cX3_fitsBoard 113 = .ok (.ireturn, 1) := by decide +kernel
theorem dX3_gameFault_0 : decode cX3_gameFault 0 = .ok (.iconst 0, 1) := by decide +kernel
theorem dX3_gameFault_1 : decode cX3_gameFault 1 = .ok (.istore_n 1, 1) := by decide +kernel
theorem dX3_gameFault_2 : decode cX3_gameFault 2 = .ok (.iload_n 1, 1) := by decide +kernel
theorem dX3_gameFault_3 : decode cX3_gameFault 3 = .ok (.aload_n 0, 1) := by decide +kernel
theorem dX3_gameFault_4 : decode cX3_gameFault 4 = .ok (.getfield 15, 3) := by decide +kernel
theorem dX3_gameFault_7 : decode cX3_gameFault 7 = .ok (.if_icmp .ge 39, 3) := by decide +kernel
theorem dX3_gameFault_10 : decode cX3_gameFault 10 = .ok (.aload_n 0, 1) := by decide +kernel
theorem dX3_gameFault_11 : decode cX3_gameFault 11 = .ok (.iload_n 1, 1) := by decide +kernel
theorem dX3_gameFault_12 : decode cX3_gameFault 12 = .ok (.invokevirtual 19, 3) := by decide +kernel
theorem dX3_gameFault_15 : decode cX3_gameFault 15 = .ok (.istore_n 2, 1) := by decide +kernel
theorem dX3_gameFault_16 : decode cX3_gameFault 16 = .ok (.iload_n 1, 1) := by decide +kernel
theorem dX3_gameFault_17 : decode cX3_gameFault 17 = .ok (.iconst 2, 1) := by decide +kernel
theorem dX3_gameFault_18 : decode cX3_gameFault 18 = .ok (.irem, 1) := by decide +kernel
theorem dX3_gameFault_19 : decode cX3_gameFault 19 = .ok (.ifCond .ne 10, 3) := by decide +kernel
theorem dX3_gameFault_22 : decode cX3_gameFault 22 = .ok (.iload_n 2, 1) := by decide +kernel
theorem dX3_gameFault_23 : decode cX3_gameFault 23 = .ok (.invokestatic 30, 3) := by decide +kernel
theorem dX3_gameFault_26 : decode cX3_gameFault 26 = .ok (.goto 7, 3) := by decide +kernel
theorem dX3_gameFault_29 : decode cX3_gameFault 29 = .ok (.iload_n 2, 1) := by decide +kernel
theorem dX3_gameFault_30 : decode cX3_gameFault 30 = .ok (.invokestatic 34, 3) := by decide +kernel
theorem dX3_gameFault_33 : decode cX3_gameFault 33 = .ok (.istore_n 3, 1) := by decide +kernel
theorem dX3_gameFault_34 : decode cX3_gameFault 34 = .ok (.iload_n 3, 1) := by decide +kernel
theorem dX3_gameFault_35 : decode cX3_gameFault 35 = .ok (.ifCond .ne 5, 3) := by decide +kernel
theorem dX3_gameFault_38 : decode cX3_gameFault 38 = .ok (.iload_n 1, 1) := by decide +kernel
theorem dX3_gameFault_39 : decode cX3_gameFault 39 = .ok (.ireturn, 1) := by decide +kernel
theorem dX3_gameFault_40 : decode cX3_gameFault 40 = .ok (.iinc 1 1, 3) := by decide +kernel
theorem dX3_gameFault_43 : decode cX3_gameFault 43 = .ok (.goto (-41), 3) := by decide +kernel
theorem dX3_gameFault_46 : decode cX3_gameFault 46 = .ok (.aload_n 0, 1) := by decide +kernel
theorem dX3_gameFault_47 : decode cX3_gameFault 47 = .ok (.getfield 15, 3) := by decide +kernel
theorem dX3_gameFault_50 : decode cX3_gameFault 50 = .ok (.iconst 4, 1) := by decide +kernel
theorem dX3_gameFault_51 : decode cX3_gameFault 51 = .ok (.irem, 1) := by decide +kernel
theorem dX3_gameFault_52 : decode cX3_gameFault 52 = .ok (.ifCond .ne 8, 3) := by decide +kernel
theorem dX3_gameFault_55 : decode cX3_gameFault 55 = .ok (.bipush (-6), 2) := by decide +kernel
theorem dX3_gameFault_57 : decode cX3_gameFault 57 = .ok (.goto 7, 3) := by decide +kernel
theorem dX3_gameFault_60 : decode cX3_gameFault 60 = .ok (.aload_n 0, 1) := by decide +kernel
theorem dX3_gameFault_61 : decode cX3_gameFault 61 = .ok (.getfield 15, 3) := by decide +kernel
theorem dX3_gameFault_64 : decode cX3_gameFault 64 = .ok (.ireturn, 1) := by decide +kernel
theorem dX3_boardTold_0 : decode cX3_boardTold 0 = .ok (.ldc2_w 39, 3) := by decide +kernel
theorem dX3_boardTold_3 : decode cX3_boardTold 3 = .ok (.lstore_n 1, 1) := by decide +kernel
theorem dX3_boardTold_4 : decode cX3_boardTold 4 = .ok (.iconst 0, 1) := by decide +kernel
theorem dX3_boardTold_5 : decode cX3_boardTold 5 = .ok (.istore_n 3, 1) := by decide +kernel
theorem dX3_boardTold_6 : decode cX3_boardTold 6 = .ok (.iload_n 3, 1) := by decide +kernel
theorem dX3_boardTold_7 : decode cX3_boardTold 7 = .ok (.iconst 3, 1) := by decide +kernel
theorem dX3_boardTold_8 : decode cX3_boardTold 8 = .ok (.iadd, 1) := by decide +kernel
theorem dX3_boardTold_9 : decode cX3_boardTold 9 = .ok (.aload_n 0, 1) := by decide +kernel
theorem dX3_boardTold_10 : decode cX3_boardTold 10 = .ok (.getfield 15, 3) := by decide +kernel
theorem dX3_boardTold_13 : decode cX3_boardTold 13 = .ok (.if_icmp .ge 39, 3) := by decide +kernel
theorem dX3_boardTold_16 : decode cX3_boardTold 16 = .ok (.lload_n 1, 1) := by decide +kernel
theorem dX3_boardTold_17 : decode cX3_boardTold 17 = .ok (.aload_n 0, 1) := by decide +kernel
theorem dX3_boardTold_18 : decode cX3_boardTold 18 = .ok (.iload_n 3, 1) := by decide +kernel
theorem dX3_boardTold_19 : decode cX3_boardTold 19 = .ok (.invokevirtual 19, 3) := by decide +kernel
theorem dX3_boardTold_22 : decode cX3_boardTold 22 = .ok (.bipush 48, 2) := by decide +kernel
theorem dX3_boardTold_24 : decode cX3_boardTold 24 = .ok (.isub, 1) := by decide +kernel
theorem dX3_boardTold_25 : decode cX3_boardTold 25 = .ok (.aload_n 0, 1) := by decide +kernel
theorem dX3_boardTold_26 : decode cX3_boardTold 26 = .ok (.iload_n 3, 1) := by decide +kernel
theorem dX3_boardTold_27 : decode cX3_boardTold 27 = .ok (.iconst 1, 1) := by decide +kernel
theorem dX3_boardTold_28 : decode cX3_boardTold 28 = .ok (.iadd, 1) := by decide +kernel
theorem dX3_boardTold_29 : decode cX3_boardTold 29 = .ok (.invokevirtual 27, 3) := by decide +kernel
theorem dX3_boardTold_32 : decode cX3_boardTold 32 = .ok (.aload_n 0, 1) := by decide +kernel
theorem dX3_boardTold_33 : decode cX3_boardTold 33 = .ok (.iload_n 3, 1) := by decide +kernel
theorem dX3_boardTold_34 : decode cX3_boardTold 34 = .ok (.iconst 3, 1) := by decide +kernel
theorem dX3_boardTold_35 : decode cX3_boardTold 35 = .ok (.iadd, 1) := by decide +kernel
theorem dX3_boardTold_36 : decode cX3_boardTold 36 = .ok (.invokevirtual 19, 3) := by decide +kernel
theorem dX3_boardTold_39 : decode cX3_boardTold 39 = .ok (.bipush 48, 2) := by decide +kernel
theorem dX3_boardTold_41 : decode cX3_boardTold 41 = .ok (.isub, 1) := by decide +kernel
theorem dX3_boardTold_42 : decode cX3_boardTold 42 = .ok (.invokestatic 41, 3) := by decide +kernel
theorem dX3_boardTold_45 : decode cX3_boardTold 45 = .ok (.lstore_n 1, 1) := by decide +kernel
theorem dX3_boardTold_46 : decode cX3_boardTold 46 = .ok (.iinc 3 4, 3) := by decide +kernel
theorem dX3_boardTold_49 : decode cX3_boardTold 49 = .ok (.goto (-43), 3) := by decide +kernel
theorem dX3_boardTold_52 : decode cX3_boardTold 52 = .ok (.lload_n 1, 1) := by decide +kernel
theorem dX3_boardTold_53 : decode cX3_boardTold 53 = .ok (.aload_n 0, 1) := by decide +kernel
theorem dX3_boardTold_54 : decode cX3_boardTold 54 = .ok (.getfield 15, 3) := by decide +kernel
theorem dX3_boardTold_57 : decode cX3_boardTold 57 = .ok (.iconst 4, 1) := by decide +kernel
theorem dX3_boardTold_58 : decode cX3_boardTold 58 = .ok (.irem, 1) := by decide +kernel
theorem dX3_boardTold_59 : decode cX3_boardTold 59 = .ok (.iconst 1, 1) := by decide +kernel
theorem dX3_boardTold_60 : decode cX3_boardTold 60 = .ok (.if_icmp .ne 7, 3) := by decide +kernel
theorem dX3_boardTold_63 : decode cX3_boardTold 63 = .ok (.iconst 1, 1) := by decide +kernel
theorem dX3_boardTold_64 : decode cX3_boardTold 64 = .ok (.goto 4, 3) := by decide +kernel
theorem dX3_boardTold_67 : decode cX3_boardTold 67 = .ok (.iconst 0, 1) := by decide +kernel
theorem dX3_boardTold_68 : decode cX3_boardTold 68 = .ok (.invokestatic 45, 3) := by decide +kernel
theorem dX3_boardTold_71 : decode cX3_boardTold 71 = .ok (.lreturn, 1) := by decide +kernel
theorem dX3_countMoves_0 : decode cX3_countMoves 0 = .ok (.aload_n 0, 1) := by decide +kernel
theorem dX3_countMoves_1 : decode cX3_countMoves 1 = .ok (.getfield 15, 3) := by decide +kernel
theorem dX3_countMoves_4 : decode cX3_countMoves 4 = .ok (.iconst 4, 1) := by decide +kernel
theorem dX3_countMoves_5 : decode cX3_countMoves 5 = .ok (.idiv, 1) := by decide +kernel
theorem dX3_countMoves_6 : decode cX3_countMoves 6 = .ok (.ireturn, 1) := by decide +kernel
theorem dX3_fromAt_0 : decode cX3_fromAt 0 = .ok (.aload_n 0, 1) := by decide +kernel
theorem dX3_fromAt_1 : decode cX3_fromAt 1 = .ok (.iconst 4, 1) := by decide +kernel
theorem dX3_fromAt_2 : decode cX3_fromAt 2 = .ok (.iload_n 1, 1) := by decide +kernel
theorem dX3_fromAt_3 : decode cX3_fromAt 3 = .ok (.imul, 1) := by decide +kernel
theorem dX3_fromAt_4 : decode cX3_fromAt 4 = .ok (.invokevirtual 27, 3) := by decide +kernel
theorem dX3_fromAt_7 : decode cX3_fromAt 7 = .ok (.ireturn, 1) := by decide +kernel
theorem dX3_toAt_0 : decode cX3_toAt 0 = .ok (.aload_n 0, 1) := by decide +kernel
theorem dX3_toAt_1 : decode cX3_toAt 1 = .ok (.iconst 4, 1) := by decide +kernel
theorem dX3_toAt_2 : decode cX3_toAt 2 = .ok (.iload_n 1, 1) := by decide +kernel
theorem dX3_toAt_3 : decode cX3_toAt 3 = .ok (.imul, 1) := by decide +kernel
theorem dX3_toAt_4 : decode cX3_toAt 4 = .ok (.iconst 2, 1) := by decide +kernel
theorem dX3_toAt_5 : decode cX3_toAt 5 = .ok (.iadd, 1) := by decide +kernel
theorem dX3_toAt_6 : decode cX3_toAt 6 = .ok (.invokevirtual 27, 3) := by decide +kernel
theorem dX3_toAt_9 : decode cX3_toAt 9 = .ok (.ireturn, 1) := by decide +kernel
theorem dX4_init_0 : decode cX4_init 0 = .ok (.aload_n 0, 1) := by decide +kernel
theorem dX4_init_1 : decode cX4_init 1 = .ok (.invokespecial 3, 3) := by decide +kernel
theorem dX4_init_4 : decode cX4_init 4 = .ok (.aload_n 0, 1) := by decide +kernel
theorem dX4_init_5 : decode cX4_init 5 = .ok (.bipush 24, 2) := by decide +kernel
theorem dX4_init_7 : decode cX4_init 7 = .ok (.newarray .int, 2) := by decide +kernel
theorem dX4_init_9 : decode cX4_init 9 = .ok (.putfield 9, 3) := by decide +kernel
theorem dX4_init_12 : decode cX4_init 12 = .ok (.aload_n 0, 1) := by decide +kernel
theorem dX4_init_13 : decode cX4_init 13 = .ok (.bipush 24, 2) := by decide +kernel
theorem dX4_init_15 : decode cX4_init 15 = .ok (.newarray .int, 2) := by decide +kernel
theorem dX4_init_17 : decode cX4_init 17 = .ok (.putfield 15, 3) := by decide +kernel
theorem dX4_init_20 : decode cX4_init 20 = .ok (.aload_n 0, 1) := by decide +kernel
theorem dX4_init_21 : decode cX4_init 21 = .ok (.bipush 24, 2) := by decide +kernel
theorem dX4_init_23 : decode cX4_init 23 = .ok (.newarray .int, 2) := by decide +kernel
theorem dX4_init_25 : decode cX4_init 25 = .ok (.putfield 18, 3) := by decide +kernel
theorem dX4_init_28 : decode cX4_init 28 = .ok (.aload_n 0, 1) := by decide +kernel
theorem dX4_init_29 : decode cX4_init 29 = .ok (.bipush 24, 2) := by decide +kernel
theorem dX4_init_31 : decode cX4_init 31 = .ok (.newarray .int, 2) := by decide +kernel
theorem dX4_init_33 : decode cX4_init 33 = .ok (.putfield 21, 3) := by decide +kernel
theorem dX4_init_36 : decode cX4_init 36 = .ok (.aload_n 0, 1) := by decide +kernel
theorem dX4_init_37 : decode cX4_init 37 = .ok (.iconst 0, 1) := by decide +kernel
theorem dX4_init_38 : decode cX4_init 38 = .ok (.putfield 24, 3) := by decide +kernel
theorem dX4_init_41 : decode cX4_init 41 = .ok (.aload_n 0, 1) := by decide +kernel
theorem dX4_init_42 : decode cX4_init 42 = .ok (.lconst 0, 1) := by decide +kernel
theorem dX4_init_43 : decode cX4_init 43 = .ok (.putfield 28, 3) := by decide +kernel
theorem dX4_init_46 : decode cX4_init 46 = .ok (.aload_n 0, 1) := by decide +kernel
theorem dX4_init_47 : decode cX4_init 47 = .ok (.iconst (-1), 1) := by decide +kernel
theorem dX4_init_48 : decode cX4_init 48 = .ok (.putfield 32, 3) := by decide +kernel
theorem dX4_init_51 : decode cX4_init 51 = .ok (.aload_n 0, 1) := by decide +kernel
theorem dX4_init_52 : decode cX4_init 52 = .ok (.iconst 0, 1) := by decide +kernel
theorem dX4_init_53 : decode cX4_init 53 = .ok (.putfield 35, 3) := by decide +kernel
theorem dX4_init_56 : decode cX4_init 56 = .ok (.return_, 1) := by decide +kernel
theorem dX4_find_0 : decode cX4_find 0 = .ok (.aload_n 0, 1) := by decide +kernel
theorem dX4_find_1 : decode cX4_find 1 = .ok (.getfield 32, 3) := by decide +kernel
theorem dX4_find_4 : decode cX4_find 4 = .ok (.aload_n 1, 1) := by decide +kernel
theorem dX4_find_5 : decode cX4_find 5 = .ok (.invokevirtual 38, 3) := by decide +kernel
theorem dX4_find_8 : decode cX4_find 8 = .ok (.if_icmp .ne 22, 3) := by decide +kernel
theorem dX4_find_11 : decode cX4_find 11 = .ok (.aload_n 0, 1) := by decide +kernel
theorem dX4_find_12 : decode cX4_find 12 = .ok (.getfield 28, 3) := by decide +kernel
theorem dX4_find_15 : decode cX4_find 15 = .ok (.lload_n 2, 1) := by decide +kernel
theorem dX4_find_16 : decode cX4_find 16 = .ok (.lcmp, 1) := by decide +kernel
theorem dX4_find_17 : decode cX4_find 17 = .ok (.ifCond .ne 13, 3) := by decide +kernel
theorem dX4_find_20 : decode cX4_find 20 = .ok (.aload_n 0, 1) := by decide +kernel
theorem dX4_find_21 : decode cX4_find 21 = .ok (.getfield 35, 3) := by decide +kernel
theorem dX4_find_24 : decode cX4_find 24 = .ok (.iload 4, 2) := by decide +kernel
theorem dX4_find_26 : decode cX4_find 26 = .ok (.if_icmp .ne 4, 3) := by decide +kernel
theorem dX4_find_29 : decode cX4_find 29 = .ok (.return_, 1) := by decide +kernel
theorem dX4_find_30 : decode cX4_find 30 = .ok (.aload_n 0, 1) := by decide +kernel
theorem dX4_find_31 : decode cX4_find 31 = .ok (.aload_n 1, 1) := by decide +kernel
theorem dX4_find_32 : decode cX4_find 32 = .ok (.invokevirtual 38, 3) := by decide +kernel
theorem dX4_find_35 : decode cX4_find 35 = .ok (.putfield 32, 3) := by decide +kernel
theorem dX4_find_38 : decode cX4_find 38 = .ok (.aload_n 0, 1) := by decide +kernel
theorem dX4_find_39 : decode cX4_find 39 = .ok (.lload_n 2, 1) := by decide +kernel
theorem dX4_find_40 : decode cX4_find 40 = .ok (.putfield 28, 3) := by decide +kernel
theorem dX4_find_43 : decode cX4_find 43 = .ok (.aload_n 0, 1) := by decide +kernel
theorem dX4_find_44 : decode cX4_find 44 = .ok (.iload 4, 2) := by decide +kernel
theorem dX4_find_46 : decode cX4_find 46 = .ok (.putfield 35, 3) := by decide +kernel
theorem dX4_find_49 : decode cX4_find 49 = .ok (.aload_n 0, 1) := by decide +kernel
theorem dX4_find_50 : decode cX4_find 50 = .ok (.iconst 0, 1) := by decide +kernel
theorem dX4_find_51 : decode cX4_find 51 = .ok (.putfield 24, 3) := by decide +kernel
theorem dX4_find_54 : decode cX4_find 54 = .ok (.lload_n 2, 1) := by decide +kernel
theorem dX4_find_55 : decode cX4_find 55 = .ok (.invokestatic 44, 3) := by decide +kernel
theorem dX4_find_58 : decode cX4_find 58 = .ok (.invokestatic 50, 3) := by decide +kernel
theorem dX4_find_61 : decode cX4_find 61 = .ok (.istore 5, 2) := by decide +kernel
theorem dX4_find_63 : decode cX4_find 63 = .ok (.aload_n 1, 1) := by decide +kernel
theorem dX4_find_64 : decode cX4_find 64 = .ok (.lload_n 2, 1) := by decide +kernel
theorem dX4_find_65 : decode cX4_find 65 = .ok (.aload_n 0, 1) := by decide +kernel
theorem dX4_find_66 : decode cX4_find 66 = .ok (.getfield 9, 3) := by decide +kernel
theorem dX4_find_69 : decode cX4_find 69 = .ok (.iconst 0, 1) := by decide +kernel
theorem dX4_find_70 : decode cX4_find 70 = .ok (.invokevirtual 54, 3) := by decide +kernel
theorem dX4_find_73 : decode cX4_find 73 = .ok (.istore 6, 2) := by decide +kernel
theorem dX4_find_75 : decode cX4_find 75 = .ok (.iconst 0, 1) := by decide +kernel
theorem dX4_find_76 : decode cX4_find 76 = .ok (.istore 7, 2) := by decide +kernel
theorem dX4_find_78 : decode cX4_find 78 = .ok (.iload 7, 2) := by decide +kernel
theorem dX4_find_80 : decode cX4_find 80 = .ok (.iload 6, 2) := by decide +kernel
theorem dX4_find_82 : decode cX4_find 82 = .ok (.if_icmp .ge 118, 3) := by decide +kernel
theorem dX4_find_85 : decode cX4_find 85 = .ok (.iload 7, 2) := by decide +kernel
theorem dX4_find_87 : decode cX4_find 87 = .ok (.aload_n 0, 1) := by decide +kernel
theorem dX4_find_88 : decode cX4_find 88 = .ok (.getfield 9, 3) := by decide +kernel
theorem dX4_find_91 : decode cX4_find 91 = .ok (.arraylength, 1) := by decide +kernel
theorem dX4_find_92 : decode cX4_find 92 = .ok (.if_icmp .ge 108, 3) := by decide +kernel
theorem dX4_find_95 : decode cX4_find 95 = .ok (.lload_n 2, 1) := by decide +kernel
theorem dX4_find_96 : decode cX4_find 96 = .ok (.aload_n 0, 1) := by decide +kernel
theorem dX4_find_97 : decode cX4_find 97 = .ok (.getfield 9, 3) := by decide +kernel
theorem dX4_find_100 : decode cX4_find 100 = .ok (.iload 7, 2) := by decide +kernel
theorem dX4_find_102 : decode cX4_find 102 = .ok (.iaload, 1) := by decide +kernel
theorem dX4_find_103 : decode cX4_find 103 = .ok (.invokestatic 58, 3) := by decide +kernel
theorem dX4_find_106 : decode cX4_find 106 = .ok (.lstore 8, 2) := by decide +kernel
theorem dX4_find_108 : decode cX4_find 108 = .ok (.aload_n 1, 1) := by decide +kernel
theorem dX4_find_109 : decode cX4_find 109 = .ok (.lload 8, 2) := by decide +kernel
theorem dX4_find_111 : decode cX4_find 111 = .ok (.invokevirtual 62, 3) := by decide +kernel
theorem dX4_find_114 : decode cX4_find 114 = .ok (.istore 10, 2) := by decide +kernel
theorem dX4_find_116 : decode cX4_find 116 = .ok (.iload 10, 2) := by decide +kernel
theorem dX4_find_118 : decode cX4_find 118 = .ok (.iload 5, 2) := by decide +kernel
theorem dX4_find_120 : decode cX4_find 120 = .ok (.if_icmp .eq 24, 3) := by decide +kernel
theorem dX4_find_123 : decode cX4_find 123 = .ok (.iload 4, 2) := by decide +kernel
theorem dX4_find_125 : decode cX4_find 125 = .ok (.iconst 1, 1) := by decide +kernel
theorem dX4_find_126 : decode cX4_find 126 = .ok (.if_icmp .le 22, 3) := by decide +kernel
theorem dX4_find_129 : decode cX4_find 129 = .ok (.iload 10, 2) := by decide +kernel
theorem dX4_find_131 : decode cX4_find 131 = .ok (.ifCond .ne 17, 3) := by decide +kernel
theorem dX4_find_134 : decode cX4_find 134 = .ok (.aload_n 0, 1) := by decide +kernel
theorem dX4_find_135 : decode cX4_find 135 = .ok (.aload_n 1, 1) := by decide +kernel
theorem dX4_find_136 : decode cX4_find 136 = .ok (.lload 8, 2) := by decide +kernel
theorem dX4_find_138 : decode cX4_find 138 = .ok (.invokevirtual 65, 3) := by decide +kernel
theorem dX4_find_141 : decode cX4_find 141 = .ok (.ifCond .eq 7, 3) := by decide +kernel
theorem dX4_find_144 : decode cX4_find 144 = .ok (.iconst 1, 1) := by decide +kernel
theorem dX4_find_145 : decode cX4_find 145 = .ok (.goto 4, 3) := by decide +kernel
theorem dX4_find_148 : decode cX4_find 148 = .ok (.iconst 0, 1) := by decide +kernel
theorem dX4_find_149 : decode cX4_find 149 = .ok (.istore 11, 2) := by decide +kernel
theorem dX4_find_151 : decode cX4_find 151 = .ok (.iload 11, 2) := by decide +kernel
theorem dX4_find_153 : decode cX4_find 153 = .ok (.ifCond .eq 41, 3) := by decide +kernel
theorem dX4_find_156 : decode cX4_find 156 = .ok (.aload_n 0, 1) := by decide +kernel
theorem dX4_find_157 : decode cX4_find 157 = .ok (.getfield 24, 3) := by decide +kernel
theorem dX4_find_160 : decode cX4_find 160 = .ok (.aload_n 0, 1) := by decide +kernel
theorem dX4_find_161 : decode cX4_find 161 = .ok (.getfield 21, 3) := by decide +kernel
theorem dX4_find_164 : decode cX4_find 164 = .ok (.arraylength, 1) := by decide +kernel
theorem dX4_find_165 : decode cX4_find 165 = .ok (.if_icmp .ge 29, 3) := by decide +kernel
theorem dX4_find_168 : decode cX4_find 168 = .ok (.aload_n 0, 1) := by decide +kernel
theorem dX4_find_169 : decode cX4_find 169 = .ok (.getfield 21, 3) := by decide +kernel
theorem dX4_find_172 : decode cX4_find 172 = .ok (.aload_n 0, 1) := by decide +kernel
theorem dX4_find_173 : decode cX4_find 173 = .ok (.getfield 24, 3) := by decide +kernel
theorem dX4_find_176 : decode cX4_find 176 = .ok (.aload_n 0, 1) := by decide +kernel
theorem dX4_find_177 : decode cX4_find 177 = .ok (.getfield 9, 3) := by decide +kernel
theorem dX4_find_180 : decode cX4_find 180 = .ok (.iload 7, 2) := by decide +kernel
theorem dX4_find_182 : decode cX4_find 182 = .ok (.iaload, 1) := by decide +kernel
theorem dX4_find_183 : decode cX4_find 183 = .ok (.iastore, 1) := by decide +kernel
theorem dX4_find_184 : decode cX4_find 184 = .ok (.aload_n 0, 1) := by decide +kernel
theorem dX4_find_185 : decode cX4_find 185 = .ok (.dup, 1) := by decide +kernel
theorem dX4_find_186 : decode cX4_find 186 = .ok (.getfield 24, 3) := by decide +kernel
theorem dX4_find_189 : decode cX4_find 189 = .ok (.iconst 1, 1) := by decide +kernel
theorem dX4_find_190 : decode cX4_find 190 = .ok (.iadd, 1) := by decide +kernel
theorem dX4_find_191 : decode cX4_find 191 = .ok (.putfield 24, 3) := by decide +kernel
theorem dX4_find_194 : decode cX4_find 194 = .ok (.iinc 7 1, 3) := by decide +kernel
theorem dX4_find_197 : decode cX4_find 197 = .ok (.goto (-119), 3) := by decide +kernel
theorem dX4_find_200 : decode cX4_find 200 = .ok (.return_, 1) := by decide +kernel
theorem dX4_winsAgainstAll_0 : decode cX4_winsAgainstAll 0 = .ok (.aload_n 1, 1) := by decide +kernel
theorem dX4_winsAgainstAll_1 : decode cX4_winsAgainstAll 1 = .ok (.lload_n 2, 1) := by decide +kernel
theorem dX4_winsAgainstAll_2 : decode cX4_winsAgainstAll 2 = .ok (.aload_n 0, 1) := by decide +kernel
theorem dX4_winsAgainstAll_3 : decode cX4_winsAgainstAll 3 = .ok (.getfield 15, 3) := by decide +kernel
theorem dX4_winsAgainstAll_6 : decode cX4_winsAgainstAll 6 = .ok (.iconst 0, 1) := by decide +kernel
theorem dX4_winsAgainstAll_7 : decode cX4_winsAgainstAll 7 = .ok (.invokevirtual 54, 3) := by decide +kernel
theorem dX4_winsAgainstAll_10 : decode cX4_winsAgainstAll 10 = .ok (.istore 4, 2) := by decide +kernel
theorem dX4_winsAgainstAll_12 : decode cX4_winsAgainstAll 12 = .ok (.iconst 0, 1) := by decide +kernel
theorem dX4_winsAgainstAll_13 : decode cX4_winsAgainstAll 13 = .ok (.istore 5, 2) := by decide +kernel
theorem dX4_winsAgainstAll_15 : decode cX4_winsAgainstAll 15 = .ok (.iload 5, 2) := by decide +kernel
theorem dX4_winsAgainstAll_17 : decode cX4_winsAgainstAll 17 = .ok (.iload 4, 2) := by decide +kernel
theorem dX4_winsAgainstAll_19 : decode cX4_winsAgainstAll 19 = .ok (.if_icmp .ge 40, 3) := by decide +kernel
theorem dX4_winsAgainstAll_22 : decode cX4_winsAgainstAll 22 = .ok (.iload 5, 2) := by decide +kernel
theorem dX4_winsAgainstAll_24 : decode cX4_winsAgainstAll 24 = .ok (.aload_n 0, 1) := by decide +kernel
theorem dX4_winsAgainstAll_25 : decode cX4_winsAgainstAll 25 = .ok (.getfield 15, 3) := by decide +kernel
theorem dX4_winsAgainstAll_28 : decode cX4_winsAgainstAll 28 = .ok (.arraylength, 1) := by decide +kernel
theorem dX4_winsAgainstAll_29 : decode cX4_winsAgainstAll 29 = .ok (.if_icmp .ge 30, 3) := by decide +kernel
theorem dX4_winsAgainstAll_32 : decode cX4_winsAgainstAll 32 = .ok (.aload_n 0, 1) := by decide +kernel
theorem dX4_winsAgainstAll_33 : decode cX4_winsAgainstAll 33 = .ok (.aload_n 1, 1) := by decide +kernel
theorem dX4_winsAgainstAll_34 : decode cX4_winsAgainstAll 34 = .ok (.lload_n 2, 1) := by decide +kernel
theorem dX4_winsAgainstAll_35 : decode cX4_winsAgainstAll 35 = .ok (.aload_n 0, 1) := by decide +kernel
theorem dX4_winsAgainstAll_36 : decode cX4_winsAgainstAll 36 = .ok (.getfield 15, 3) := by decide +kernel
theorem dX4_winsAgainstAll_39 : decode cX4_winsAgainstAll 39 = .ok (.iload 5, 2) := by decide +kernel
theorem dX4_winsAgainstAll_41 : decode cX4_winsAgainstAll 41 = .ok (.iaload, 1) := by decide +kernel
theorem dX4_winsAgainstAll_42 : decode cX4_winsAgainstAll 42 = .ok (.invokestatic 58, 3) := by decide +kernel
theorem dX4_winsAgainstAll_45 : decode cX4_winsAgainstAll 45 = .ok (.invokevirtual 69, 3) := by decide +kernel
theorem dX4_winsAgainstAll_48 : decode cX4_winsAgainstAll 48 = .ok (.ifCond .ne 5, 3) := by decide +kernel
theorem dX4_winsAgainstAll_51 : decode cX4_winsAgainstAll 51 = .ok (.iconst 0, 1) := by decide +kernel
theorem dX4_winsAgainstAll_52 : decode cX4_winsAgainstAll 52 = .ok (.ireturn, 1) := by decide +kernel
theorem dX4_winsAgainstAll_53 : decode cX4_winsAgainstAll 53 = .ok (.iinc 5 1, 3) := by decide +kernel
theorem dX4_winsAgainstAll_56 : decode cX4_winsAgainstAll 56 = .ok (.goto (-41), 3) := by decide +kernel
theorem dX4_winsAgainstAll_59 : decode cX4_winsAgainstAll 59 = .ok (.iconst 1, 1) := by decide +kernel
theorem dX4_winsAgainstAll_60 : decode cX4_winsAgainstAll 60 = .ok (.ireturn, 1) := by decide +kernel
theorem dX4_winsAtOnce_0 : decode cX4_winsAtOnce 0 = .ok (.lload_n 2, 1) := by decide +kernel
theorem dX4_winsAtOnce_1 : decode cX4_winsAtOnce 1 = .ok (.invokestatic 44, 3) := by decide +kernel
theorem dX4_winsAtOnce_4 : decode cX4_winsAtOnce 4 = .ok (.invokestatic 50, 3) := by decide +kernel
theorem dX4_winsAtOnce_7 : decode cX4_winsAtOnce 7 = .ok (.istore 4, 2) := by decide +kernel
theorem dX4_winsAtOnce_9 : decode cX4_winsAtOnce 9 = .ok (.aload_n 1, 1) := by decide +kernel
theorem dX4_winsAtOnce_10 : decode cX4_winsAtOnce 10 = .ok (.lload_n 2, 1) := by decide +kernel
theorem dX4_winsAtOnce_11 : decode cX4_winsAtOnce 11 = .ok (.aload_n 0, 1) := by decide +kernel
theorem dX4_winsAtOnce_12 : decode cX4_winsAtOnce 12 = .ok (.getfield 18, 3) := by decide +kernel
theorem dX4_winsAtOnce_15 : decode cX4_winsAtOnce 15 = .ok (.iconst 0, 1) := by decide +kernel
theorem dX4_winsAtOnce_16 : decode cX4_winsAtOnce 16 = .ok (.invokevirtual 54, 3) := by decide +kernel
theorem dX4_winsAtOnce_19 : decode cX4_winsAtOnce 19 = .ok (.istore 5, 2) := by decide +kernel
theorem dX4_winsAtOnce_21 : decode cX4_winsAtOnce 21 = .ok (.iconst 0, 1) := by decide +kernel
theorem dX4_winsAtOnce_22 : decode cX4_winsAtOnce 22 = .ok (.istore 6, 2) := by decide +kernel
theorem dX4_winsAtOnce_24 : decode cX4_winsAtOnce 24 = .ok (.iload 6, 2) := by decide +kernel
theorem dX4_winsAtOnce_26 : decode cX4_winsAtOnce 26 = .ok (.iload 5, 2) := by decide +kernel
theorem dX4_winsAtOnce_28 : decode cX4_winsAtOnce 28 = .ok (.if_icmp .ge 41, 3) := by decide +kernel
theorem dX4_winsAtOnce_31 : decode cX4_winsAtOnce 31 = .ok (.iload 6, 2) := by decide +kernel
theorem dX4_winsAtOnce_33 : decode cX4_winsAtOnce 33 = .ok (.aload_n 0, 1) := by decide +kernel
theorem dX4_winsAtOnce_34 : decode cX4_winsAtOnce 34 = .ok (.getfield 18, 3) := by decide +kernel
theorem dX4_winsAtOnce_37 : decode cX4_winsAtOnce 37 = .ok (.arraylength, 1) := by decide +kernel
theorem dX4_winsAtOnce_38 : decode cX4_winsAtOnce 38 = .ok (.if_icmp .ge 31, 3) := by decide +kernel
theorem dX4_winsAtOnce_41 : decode cX4_winsAtOnce 41 = .ok (.aload_n 1, 1) := by decide +kernel
theorem dX4_winsAtOnce_42 : decode cX4_winsAtOnce 42 = .ok (.lload_n 2, 1) := by decide +kernel
theorem dX4_winsAtOnce_43 : decode cX4_winsAtOnce 43 = .ok (.aload_n 0, 1) := by decide +kernel
theorem dX4_winsAtOnce_44 : decode cX4_winsAtOnce 44 = .ok (.getfield 18, 3) := by decide +kernel
theorem dX4_winsAtOnce_47 : decode cX4_winsAtOnce 47 = .ok (.iload 6, 2) := by decide +kernel
theorem dX4_winsAtOnce_49 : decode cX4_winsAtOnce 49 = .ok (.iaload, 1) := by decide +kernel
theorem dX4_winsAtOnce_50 : decode cX4_winsAtOnce 50 = .ok (.invokestatic 58, 3) := by decide +kernel
theorem dX4_winsAtOnce_53 : decode cX4_winsAtOnce 53 = .ok (.invokevirtual 62, 3) := by decide +kernel
theorem dX4_winsAtOnce_56 : decode cX4_winsAtOnce 56 = .ok (.iload 4, 2) := by decide +kernel
theorem dX4_winsAtOnce_58 : decode cX4_winsAtOnce 58 = .ok (.if_icmp .ne 5, 3) := by decide +kernel
theorem dX4_winsAtOnce_61 : decode cX4_winsAtOnce 61 = .ok (.iconst 1, 1) := by decide +kernel
theorem dX4_winsAtOnce_62 : decode cX4_winsAtOnce 62 = .ok (.ireturn, 1) := by decide +kernel
theorem dX4_winsAtOnce_63 : decode cX4_winsAtOnce 63 = .ok (.iinc 6 1, 3) := by decide +kernel
theorem dX4_winsAtOnce_66 : decode cX4_winsAtOnce 66 = .ok (.goto (-42), 3) := by decide +kernel
theorem dX4_winsAtOnce_69 : decode cX4_winsAtOnce 69 = .ok (.iconst 0, 1) := by decide +kernel
theorem dX4_winsAtOnce_70 : decode cX4_winsAtOnce 70 = .ok (.ireturn, 1) := by decide +kernel
theorem dX5_init_0 : decode cX5_init 0 = .ok (.aload_n 0, 1) := by decide +kernel
theorem dX5_init_1 : decode cX5_init 1 = .ok (.invokespecial 3, 3) := by decide +kernel
theorem dX5_init_4 : decode cX5_init 4 = .ok (.aload_n 0, 1) := by decide +kernel
theorem dX5_init_5 : decode cX5_init 5 = .ok (.iconst 2, 1) := by decide +kernel
theorem dX5_init_6 : decode cX5_init 6 = .ok (.putfield 9, 3) := by decide +kernel
theorem dX5_init_9 : decode cX5_init 9 = .ok (.aload_n 0, 1) := by decide +kernel
theorem dX5_init_10 : decode cX5_init 10 = .ok (.iconst 5, 1) := by decide +kernel
theorem dX5_init_11 : decode cX5_init 11 = .ok (.putfield 15, 3) := by decide +kernel
theorem dX5_init_14 : decode cX5_init 14 = .ok (.aload_n 0, 1) := by decide +kernel
theorem dX5_init_15 : decode cX5_init 15 = .ok (.bipush 8, 2) := by decide +kernel
theorem dX5_init_17 : decode cX5_init 17 = .ok (.putfield 18, 3) := by decide +kernel
theorem dX5_init_20 : decode cX5_init 20 = .ok (.return_, 1) := by decide +kernel
theorem dX5_set_0 : decode cX5_set 0 = .ok (.aload_n 0, 1) := by decide +kernel
theorem dX5_set_1 : decode cX5_set 1 = .ok (.iload_n 1, 1) := by decide +kernel
theorem dX5_set_2 : decode cX5_set 2 = .ok (.putfield 9, 3) := by decide +kernel
theorem dX5_set_5 : decode cX5_set 5 = .ok (.aload_n 0, 1) := by decide +kernel
theorem dX5_set_6 : decode cX5_set 6 = .ok (.iload_n 2, 1) := by decide +kernel
theorem dX5_set_7 : decode cX5_set 7 = .ok (.putfield 15, 3) := by decide +kernel
theorem dX5_set_10 : decode cX5_set 10 = .ok (.aload_n 0, 1) := by decide +kernel
theorem dX5_set_11 : decode cX5_set 11 = .ok (.iload_n 3, 1) := by decide +kernel
theorem dX5_set_12 : decode cX5_set 12 = .ok (.putfield 18, 3) := by decide +kernel
theorem dX5_set_15 : decode cX5_set 15 = .ok (.return_, 1) := by decide +kernel
theorem dX5_code_0 : decode cX5_code 0 = .ok (.bipush 100, 2) := by decide +kernel
theorem dX5_code_2 : decode cX5_code 2 = .ok (.aload_n 0, 1) := by decide +kernel
theorem dX5_code_3 : decode cX5_code 3 = .ok (.getfield 9, 3) := by decide +kernel
theorem dX5_code_6 : decode cX5_code 6 = .ok (.imul, 1) := by decide +kernel
theorem dX5_code_7 : decode cX5_code 7 = .ok (.bipush 10, 2) := by decide +kernel
theorem dX5_code_9 : decode cX5_code 9 = .ok (.aload_n 0, 1) := by decide +kernel
theorem dX5_code_10 : decode cX5_code 10 = .ok (.getfield 15, 3) := by decide +kernel
theorem dX5_code_13 : decode cX5_code 13 = .ok (.imul, 1) := by decide +kernel
theorem dX5_code_14 : decode cX5_code 14 = .ok (.iadd, 1) := by decide +kernel
theorem dX5_code_15 : decode cX5_code 15 = .ok (.aload_n 0, 1) := by decide +kernel
theorem dX5_code_16 : decode cX5_code 16 = .ok (.getfield 18, 3) := by decide +kernel
theorem dX5_code_19 : decode cX5_code 19 = .ok (.iadd, 1) := by decide +kernel
theorem dX5_code_20 : decode cX5_code 20 = .ok (.ireturn, 1) := by decide +kernel
theorem dX5_kindOf_0 : decode cX5_kindOf 0 = .ok (.iload_n 1, 1) := by decide +kernel
theorem dX5_kindOf_1 : decode cX5_kindOf 1 = .ok (.aload_n 0, 1) := by decide +kernel
theorem dX5_kindOf_2 : decode cX5_kindOf 2 = .ok (.getfield 9, 3) := by decide +kernel
theorem dX5_kindOf_5 : decode cX5_kindOf 5 = .ok (.if_icmp .ge 5, 3) := by decide +kernel
theorem dX5_kindOf_8 : decode cX5_kindOf 8 = .ok (.iconst 0, 1) := by decide +kernel
theorem dX5_kindOf_9 : decode cX5_kindOf 9 = .ok (.ireturn, 1) := by decide +kernel
theorem dX5_kindOf_10 : decode cX5_kindOf 10 = .ok (.iload_n 1, 1) := by decide +kernel
theorem dX5_kindOf_11 : decode cX5_kindOf 11 = .ok (.aload_n 0, 1) := by decide +kernel
theorem dX5_kindOf_12 : decode cX5_kindOf 12 = .ok (.getfield 15, 3) := by decide +kernel
theorem dX5_kindOf_15 : decode cX5_kindOf 15 = .ok (.if_icmp .ge 5, 3) := by decide +kernel
theorem dX5_kindOf_18 : decode cX5_kindOf 18 = .ok (.iconst 1, 1) := by decide +kernel
theorem dX5_kindOf_19 : decode cX5_kindOf 19 = .ok (.ireturn, 1) := by decide +kernel
theorem dX5_kindOf_20 : decode cX5_kindOf 20 = .ok (.iload_n 1, 1) := by decide +kernel
theorem dX5_kindOf_21 : decode cX5_kindOf 21 = .ok (.aload_n 0, 1) := by decide +kernel
theorem dX5_kindOf_22 : decode cX5_kindOf 22 = .ok (.getfield 18, 3) := by decide +kernel
theorem dX5_kindOf_25 : decode cX5_kindOf 25 = .ok (.if_icmp .ge 7, 3) := by decide +kernel
theorem dX5_kindOf_28 : decode cX5_kindOf 28 = .ok (.iconst 2, 1) := by decide +kernel
theorem dX5_kindOf_29 : decode cX5_kindOf 29 = .ok (.goto 4, 3) := by decide +kernel
theorem dX5_kindOf_32 : decode cX5_kindOf 32 = .ok (.iconst 3, 1) := by decide +kernel
theorem dX5_kindOf_33 : decode cX5_kindOf 33 = .ok (.ireturn, 1) := by decide +kernel
theorem dX5_targets_0 : decode cX5_targets 0 = .ok (.iload_n 1, 1) := by decide +kernel
theorem dX5_targets_1 : decode cX5_targets 1 = .ok (.ifCond .lt 9, 3) := by decide +kernel
theorem dX5_targets_4 : decode cX5_targets 4 = .ok (.iload_n 1, 1) := by decide +kernel
theorem dX5_targets_5 : decode cX5_targets 5 = .ok (.bipush 25, 2) := by decide +kernel
theorem dX5_targets_7 : decode cX5_targets 7 = .ok (.if_icmp .lt 5, 3) := by decide +kernel
theorem dX5_targets_10 : decode cX5_targets 10 = .ok (.iconst 0, 1) := by decide +kernel
theorem dX5_targets_11 : decode cX5_targets 11 = .ok (.ireturn, 1) := by decide +kernel
theorem dX5_targets_12 : decode cX5_targets 12 = .ok (.aload_n 0, 1) := by decide +kernel
theorem dX5_targets_13 : decode cX5_targets 13 = .ok (.iload_n 2, 1) := by decide +kernel
theorem dX5_targets_14 : decode cX5_targets 14 = .ok (.invokevirtual 21, 3) := by decide +kernel
theorem dX5_targets_17 : decode cX5_targets 17 = .ok (.tableswitch 58 0 2 #[27, 37, 48], 27) := by decide +kernel
theorem dX5_targets_44 : decode cX5_targets 44 = .ok (.getstatic 25, 3) := by decide +kernel
theorem dX5_targets_47 : decode cX5_targets 47 = .ok (.iload_n 1, 1) := by decide +kernel
theorem dX5_targets_48 : decode cX5_targets 48 = .ok (.iaload, 1) := by decide +kernel
theorem dX5_targets_49 : decode cX5_targets 49 = .ok (.iload_n 3, 1) := by decide +kernel
theorem dX5_targets_50 : decode cX5_targets 50 = .ok (.iconst (-1), 1) := by decide +kernel
theorem dX5_targets_51 : decode cX5_targets 51 = .ok (.ixor, 1) := by decide +kernel
theorem dX5_targets_52 : decode cX5_targets 52 = .ok (.iand, 1) := by decide +kernel
theorem dX5_targets_53 : decode cX5_targets 53 = .ok (.ireturn, 1) := by decide +kernel
theorem dX5_targets_54 : decode cX5_targets 54 = .ok (.iload_n 1, 1) := by decide +kernel
theorem dX5_targets_55 : decode cX5_targets 55 = .ok (.iload 4, 2) := by decide +kernel
theorem dX5_targets_57 : decode cX5_targets 57 = .ok (.invokestatic 29, 3) := by decide +kernel
theorem dX5_targets_60 : decode cX5_targets 60 = .ok (.iload_n 3, 1) := by decide +kernel
theorem dX5_targets_61 : decode cX5_targets 61 = .ok (.iconst (-1), 1) := by decide +kernel
theorem dX5_targets_62 : decode cX5_targets 62 = .ok (.ixor, 1) := by decide +kernel
theorem dX5_targets_63 : decode cX5_targets 63 = .ok (.iand, 1) := by decide +kernel
theorem dX5_targets_64 : decode cX5_targets 64 = .ok (.ireturn, 1) := by decide +kernel
theorem dX5_targets_65 : decode cX5_targets 65 = .ok (.getstatic 33, 3) := by decide +kernel
theorem dX5_targets_68 : decode cX5_targets 68 = .ok (.iload_n 1, 1) := by decide +kernel
theorem dX5_targets_69 : decode cX5_targets 69 = .ok (.iaload, 1) := by decide +kernel
theorem dX5_targets_70 : decode cX5_targets 70 = .ok (.iload_n 3, 1) := by decide +kernel
theorem dX5_targets_71 : decode cX5_targets 71 = .ok (.iconst (-1), 1) := by decide +kernel
theorem dX5_targets_72 : decode cX5_targets 72 = .ok (.ixor, 1) := by decide +kernel
theorem dX5_targets_73 : decode cX5_targets 73 = .ok (.iand, 1) := by decide +kernel
theorem dX5_targets_74 : decode cX5_targets 74 = .ok (.ireturn, 1) := by decide +kernel
theorem dX5_targets_75 : decode cX5_targets 75 = .ok (.iconst 0, 1) := by decide +kernel
theorem dX5_targets_76 : decode cX5_targets 76 = .ok (.ireturn, 1) := by decide +kernel
theorem dX5_straight_0 : decode cX5_straight 0 = .ok (.iload_n 0, 1) := by decide +kernel
theorem dX5_straight_1 : decode cX5_straight 1 = .ok (.iconst 5, 1) := by decide +kernel
theorem dX5_straight_2 : decode cX5_straight 2 = .ok (.irem, 1) := by decide +kernel
theorem dX5_straight_3 : decode cX5_straight 3 = .ok (.istore_n 2, 1) := by decide +kernel
theorem dX5_straight_4 : decode cX5_straight 4 = .ok (.iload_n 0, 1) := by decide +kernel
theorem dX5_straight_5 : decode cX5_straight 5 = .ok (.iconst 5, 1) := by decide +kernel
theorem dX5_straight_6 : decode cX5_straight 6 = .ok (.idiv, 1) := by decide +kernel
theorem dX5_straight_7 : decode cX5_straight 7 = .ok (.istore_n 3, 1) := by decide +kernel
theorem dX5_straight_8 : decode cX5_straight 8 = .ok (.iconst 0, 1) := by decide +kernel
theorem dX5_straight_9 : decode cX5_straight 9 = .ok (.istore 4, 2) := by decide +kernel
theorem dX5_straight_11 : decode cX5_straight 11 = .ok (.iconst 0, 1) := by decide +kernel
theorem dX5_straight_12 : decode cX5_straight 12 = .ok (.istore 5, 2) := by decide +kernel
theorem dX5_straight_14 : decode cX5_straight 14 = .ok (.iload 5, 2) := by decide +kernel
theorem dX5_straight_16 : decode cX5_straight 16 = .ok (.iconst 4, 1) := by decide +kernel
theorem dX5_straight_17 : decode cX5_straight 17 = .ok (.if_icmp .ge 113, 3) := by decide +kernel
theorem dX5_straight_20 : decode cX5_straight 20 = .ok (.iload 5, 2) := by decide +kernel
theorem dX5_straight_22 : decode cX5_straight 22 = .ok (.iconst 1, 1) := by decide +kernel
theorem dX5_straight_23 : decode cX5_straight 23 = .ok (.iand, 1) := by decide +kernel
theorem dX5_straight_24 : decode cX5_straight 24 = .ok (.ifCond .ne 7, 3) := by decide +kernel
theorem dX5_straight_27 : decode cX5_straight 27 = .ok (.iconst 1, 1) := by decide +kernel
theorem dX5_straight_28 : decode cX5_straight 28 = .ok (.goto 4, 3) := by decide +kernel
theorem dX5_straight_31 : decode cX5_straight 31 = .ok (.iconst (-1), 1) := by decide +kernel
theorem dX5_straight_32 : decode cX5_straight 32 = .ok (.istore 6, 2) := by decide +kernel
theorem dX5_straight_34 : decode cX5_straight 34 = .ok (.iload 5, 2) := by decide +kernel
theorem dX5_straight_36 : decode cX5_straight 36 = .ok (.iconst 2, 1) := by decide +kernel
theorem dX5_straight_37 : decode cX5_straight 37 = .ok (.if_icmp .ge 7, 3) := by decide +kernel
theorem dX5_straight_40 : decode cX5_straight 40 = .ok (.iload_n 2, 1) := by decide +kernel
theorem dX5_straight_41 : decode cX5_straight 41 = .ok (.goto 4, 3) := by decide +kernel
theorem dX5_straight_44 : decode cX5_straight 44 = .ok (.iload_n 3, 1) := by decide +kernel
theorem dX5_straight_45 : decode cX5_straight 45 = .ok (.istore 7, 2) := by decide +kernel
theorem dX5_straight_47 : decode cX5_straight 47 = .ok (.iload 6, 2) := by decide +kernel
theorem dX5_straight_49 : decode cX5_straight 49 = .ok (.ifCond .le 10, 3) := by decide +kernel
theorem dX5_straight_52 : decode cX5_straight 52 = .ok (.iconst 4, 1) := by decide +kernel
theorem dX5_straight_53 : decode cX5_straight 53 = .ok (.iload 7, 2) := by decide +kernel
theorem dX5_straight_55 : decode cX5_straight 55 = .ok (.isub, 1) := by decide +kernel
theorem dX5_straight_56 : decode cX5_straight 56 = .ok (.goto 5, 3) := by decide +kernel
theorem dX5_straight_59 : decode cX5_straight 59 = .ok (.iload 7, 2) := by decide +kernel
theorem dX5_straight_61 : decode cX5_straight 61 = .ok (.istore 8, 2) := by decide +kernel
theorem dX5_straight_63 : decode cX5_straight 63 = .ok (.iload 5, 2) := by decide +kernel
theorem dX5_straight_65 : decode cX5_straight 65 = .ok (.iconst 2, 1) := by decide +kernel
theorem dX5_straight_66 : decode cX5_straight 66 = .ok (.if_icmp .ge 8, 3) := by decide +kernel
theorem dX5_straight_69 : decode cX5_straight 69 = .ok (.iload 6, 2) := by decide +kernel
theorem dX5_straight_71 : decode cX5_straight 71 = .ok (.goto 7, 3) := by decide +kernel
theorem dX5_straight_74 : decode cX5_straight 74 = .ok (.iconst 5, 1) := by decide +kernel
theorem dX5_straight_75 : decode cX5_straight 75 = .ok (.iload 6, 2) := by decide +kernel
theorem dX5_straight_77 : decode cX5_straight 77 = .ok (.imul, 1) := by decide +kernel
theorem dX5_straight_78 : decode cX5_straight 78 = .ok (.istore 9, 2) := by decide +kernel
theorem dX5_straight_80 : decode cX5_straight 80 = .ok (.iconst 1, 1) := by decide +kernel
theorem dX5_straight_81 : decode cX5_straight 81 = .ok (.istore 10, 2) := by decide +kernel
theorem dX5_straight_83 : decode cX5_straight 83 = .ok (.iload 10, 2) := by decide +kernel
theorem dX5_straight_85 : decode cX5_straight 85 = .ok (.iload 8, 2) := by decide +kernel
theorem dX5_straight_87 : decode cX5_straight 87 = .ok (.if_icmp .gt 37, 3) := by decide +kernel
theorem dX5_straight_90 : decode cX5_straight 90 = .ok (.iconst 1, 1) := by decide +kernel
theorem dX5_straight_91 : decode cX5_straight 91 = .ok (.iload_n 0, 1) := by decide +kernel
theorem dX5_straight_92 : decode cX5_straight 92 = .ok (.iload 10, 2) := by decide +kernel
theorem dX5_straight_94 : decode cX5_straight 94 = .ok (.iload 9, 2) := by decide +kernel
theorem dX5_straight_96 : decode cX5_straight 96 = .ok (.imul, 1) := by decide +kernel
theorem dX5_straight_97 : decode cX5_straight 97 = .ok (.iadd, 1) := by decide +kernel
theorem dX5_straight_98 : decode cX5_straight 98 = .ok (.ishl, 1) := by decide +kernel
theorem dX5_straight_99 : decode cX5_straight 99 = .ok (.istore 11, 2) := by decide +kernel
theorem dX5_straight_101 : decode cX5_straight 101 = .ok (.iload 4, 2) := by decide +kernel
theorem dX5_straight_103 : decode cX5_straight 103 = .ok (.iload 11, 2) := by decide +kernel
theorem dX5_straight_105 : decode cX5_straight 105 = .ok (.ior, 1) := by decide +kernel
theorem dX5_straight_106 : decode cX5_straight 106 = .ok (.istore 4, 2) := by decide +kernel
theorem dX5_straight_108 : decode cX5_straight 108 = .ok (.iload_n 1, 1) := by decide +kernel
theorem dX5_straight_109 : decode cX5_straight 109 = .ok (.iload 11, 2) := by decide +kernel
theorem dX5_straight_111 : decode cX5_straight 111 = .ok (.iand, 1) := by decide +kernel
theorem dX5_straight_112 : decode cX5_straight 112 = .ok (.ifCond .eq 6, 3) := by decide +kernel
theorem dX5_straight_115 : decode cX5_straight 115 = .ok (.goto 9, 3) := by decide +kernel
theorem dX5_straight_118 : decode cX5_straight 118 = .ok (.iinc 10 1, 3) := by decide +kernel
theorem dX5_straight_121 : decode cX5_straight 121 = .ok (.goto (-38), 3) := by decide +kernel
theorem dX5_straight_124 : decode cX5_straight 124 = .ok (.iinc 5 1, 3) := by decide +kernel
theorem dX5_straight_127 : decode cX5_straight 127 = .ok (.goto (-113), 3) := by decide +kernel
theorem dX5_straight_130 : decode cX5_straight 130 = .ok (.iload 4, 2) := by decide +kernel
theorem dX5_straight_132 : decode cX5_straight 132 = .ok (.ireturn, 1) := by decide +kernel
theorem dX5_reachOfSide_0 : decode cX5_reachOfSide 0 = .ok (.lload_n 1, 1) := by decide +kernel
theorem dX5_reachOfSide_1 : decode cX5_reachOfSide 1 = .ok (.iload_n 3, 1) := by decide +kernel
theorem dX5_reachOfSide_2 : decode cX5_reachOfSide 2 = .ok (.invokestatic 36, 3) := by decide +kernel
theorem dX5_reachOfSide_5 : decode cX5_reachOfSide 5 = .ok (.istore 4, 2) := by decide +kernel
theorem dX5_reachOfSide_7 : decode cX5_reachOfSide 7 = .ok (.iload 4, 2) := by decide +kernel
theorem dX5_reachOfSide_9 : decode cX5_reachOfSide 9 = .ok (.lload_n 1, 1) := by decide +kernel
theorem dX5_reachOfSide_10 : decode cX5_reachOfSide 10 = .ok (.iconst 1, 1) := by decide +kernel
theorem dX5_reachOfSide_11 : decode cX5_reachOfSide 11 = .ok (.iload_n 3, 1) := by decide +kernel
theorem dX5_reachOfSide_12 : decode cX5_reachOfSide 12 = .ok (.isub, 1) := by decide +kernel
theorem dX5_reachOfSide_13 : decode cX5_reachOfSide 13 = .ok (.invokestatic 36, 3) := by decide +kernel
theorem dX5_reachOfSide_16 : decode cX5_reachOfSide 16 = .ok (.ior, 1) := by decide +kernel
theorem dX5_reachOfSide_17 : decode cX5_reachOfSide 17 = .ok (.istore 5, 2) := by decide +kernel
theorem dX5_reachOfSide_19 : decode cX5_reachOfSide 19 = .ok (.iconst 0, 1) := by decide +kernel
theorem dX5_reachOfSide_20 : decode cX5_reachOfSide 20 = .ok (.istore 6, 2) := by decide +kernel
theorem dX5_reachOfSide_22 : decode cX5_reachOfSide 22 = .ok (.iconst 3, 1) := by decide +kernel
theorem dX5_reachOfSide_23 : decode cX5_reachOfSide 23 = .ok (.iload_n 3, 1) := by decide +kernel
theorem dX5_reachOfSide_24 : decode cX5_reachOfSide 24 = .ok (.imul, 1) := by decide +kernel
theorem dX5_reachOfSide_25 : decode cX5_reachOfSide 25 = .ok (.istore 7, 2) := by decide +kernel
theorem dX5_reachOfSide_27 : decode cX5_reachOfSide 27 = .ok (.iload 7, 2) := by decide +kernel
theorem dX5_reachOfSide_29 : decode cX5_reachOfSide 29 = .ok (.iconst 3, 1) := by decide +kernel
theorem dX5_reachOfSide_30 : decode cX5_reachOfSide 30 = .ok (.iload_n 3, 1) := by decide +kernel
theorem dX5_reachOfSide_31 : decode cX5_reachOfSide 31 = .ok (.imul, 1) := by decide +kernel
theorem dX5_reachOfSide_32 : decode cX5_reachOfSide 32 = .ok (.iconst 3, 1) := by decide +kernel
theorem dX5_reachOfSide_33 : decode cX5_reachOfSide 33 = .ok (.iadd, 1) := by decide +kernel
theorem dX5_reachOfSide_34 : decode cX5_reachOfSide 34 = .ok (.if_icmp .ge 34, 3) := by decide +kernel
theorem dX5_reachOfSide_37 : decode cX5_reachOfSide 37 = .ok (.iload 6, 2) := by decide +kernel
theorem dX5_reachOfSide_39 : decode cX5_reachOfSide 39 = .ok (.aload_n 0, 1) := by decide +kernel
theorem dX5_reachOfSide_40 : decode cX5_reachOfSide 40 = .ok (.lload_n 1, 1) := by decide +kernel
theorem dX5_reachOfSide_41 : decode cX5_reachOfSide 41 = .ok (.iload 7, 2) := by decide +kernel
theorem dX5_reachOfSide_43 : decode cX5_reachOfSide 43 = .ok (.invokestatic 42, 3) := by decide +kernel
theorem dX5_reachOfSide_46 : decode cX5_reachOfSide 46 = .ok (.lload_n 1, 1) := by decide +kernel
theorem dX5_reachOfSide_47 : decode cX5_reachOfSide 47 = .ok (.iload 7, 2) := by decide +kernel
theorem dX5_reachOfSide_49 : decode cX5_reachOfSide 49 = .ok (.invokestatic 45, 3) := by decide +kernel
theorem dX5_reachOfSide_52 : decode cX5_reachOfSide 52 = .ok (.iload 4, 2) := by decide +kernel
theorem dX5_reachOfSide_54 : decode cX5_reachOfSide 54 = .ok (.iload 5, 2) := by decide +kernel
theorem dX5_reachOfSide_56 : decode cX5_reachOfSide 56 = .ok (.invokevirtual 48, 3) := by decide +kernel
theorem dX5_reachOfSide_59 : decode cX5_reachOfSide 59 = .ok (.ior, 1) := by decide +kernel
theorem dX5_reachOfSide_60 : decode cX5_reachOfSide 60 = .ok (.istore 6, 2) := by decide +kernel
theorem dX5_reachOfSide_62 : decode cX5_reachOfSide 62 = .ok (.iinc 7 1, 3) := by decide +kernel
theorem dX5_reachOfSide_65 : decode cX5_reachOfSide 65 = .ok (.goto (-38), 3) := by decide +kernel
theorem dX5_reachOfSide_68 : decode cX5_reachOfSide 68 = .ok (.iload 6, 2) := by decide +kernel
theorem dX5_reachOfSide_70 : decode cX5_reachOfSide 70 = .ok (.ireturn, 1) := by decide +kernel
theorem dX5_countBlocked_0 : decode cX5_countBlocked 0 = .ok (.lload_n 1, 1) := by decide +kernel
theorem dX5_countBlocked_1 : decode cX5_countBlocked 1 = .ok (.iload_n 3, 1) := by decide +kernel
theorem dX5_countBlocked_2 : decode cX5_countBlocked 2 = .ok (.invokestatic 36, 3) := by decide +kernel
theorem dX5_countBlocked_5 : decode cX5_countBlocked 5 = .ok (.istore 4, 2) := by decide +kernel
theorem dX5_countBlocked_7 : decode cX5_countBlocked 7 = .ok (.iload 4, 2) := by decide +kernel
theorem dX5_countBlocked_9 : decode cX5_countBlocked 9 = .ok (.lload_n 1, 1) := by decide +kernel
theorem dX5_countBlocked_10 : decode cX5_countBlocked 10 = .ok (.iconst 1, 1) := by decide +kernel
theorem dX5_countBlocked_11 : decode cX5_countBlocked 11 = .ok (.iload_n 3, 1) := by decide +kernel
theorem dX5_countBlocked_12 : decode cX5_countBlocked 12 = .ok (.isub, 1) := by decide +kernel
theorem dX5_countBlocked_13 : decode cX5_countBlocked 13 = .ok (.invokestatic 36, 3) := by decide +kernel
theorem dX5_countBlocked_16 : decode cX5_countBlocked 16 = .ok (.ior, 1) := by decide +kernel
theorem dX5_countBlocked_17 : decode cX5_countBlocked 17 = .ok (.istore 5, 2) := by decide +kernel
theorem dX5_countBlocked_19 : decode cX5_countBlocked 19 = .ok (.iconst 0, 1) := by decide +kernel
theorem dX5_countBlocked_20 : decode cX5_countBlocked 20 = .ok (.istore 6, 2) := by decide +kernel
theorem dX5_countBlocked_22 : decode cX5_countBlocked 22 = .ok (.iconst 3, 1) := by decide +kernel
theorem dX5_countBlocked_23 : decode cX5_countBlocked 23 = .ok (.iload_n 3, 1) := by decide +kernel
theorem dX5_countBlocked_24 : decode cX5_countBlocked 24 = .ok (.imul, 1) := by decide +kernel
theorem dX5_countBlocked_25 : decode cX5_countBlocked 25 = .ok (.istore 7, 2) := by decide +kernel
theorem dX5_countBlocked_27 : decode cX5_countBlocked 27 = .ok (.iload 7, 2) := by decide +kernel
theorem dX5_countBlocked_29 : decode cX5_countBlocked 29 = .ok (.iconst 3, 1) := by decide +kernel
theorem dX5_countBlocked_30 : decode cX5_countBlocked 30 = .ok (.iload_n 3, 1) := by decide +kernel
theorem dX5_countBlocked_31 : decode cX5_countBlocked 31 = .ok (.imul, 1) := by decide +kernel
theorem dX5_countBlocked_32 : decode cX5_countBlocked 32 = .ok (.iconst 3, 1) := by decide +kernel
theorem dX5_countBlocked_33 : decode cX5_countBlocked 33 = .ok (.iadd, 1) := by decide +kernel
theorem dX5_countBlocked_34 : decode cX5_countBlocked 34 = .ok (.if_icmp .ge 44, 3) := by decide +kernel
theorem dX5_countBlocked_37 : decode cX5_countBlocked 37 = .ok (.lload_n 1, 1) := by decide +kernel
theorem dX5_countBlocked_38 : decode cX5_countBlocked 38 = .ok (.iload 7, 2) := by decide +kernel
theorem dX5_countBlocked_40 : decode cX5_countBlocked 40 = .ok (.invokestatic 52, 3) := by decide +kernel
theorem dX5_countBlocked_43 : decode cX5_countBlocked 43 = .ok (.ifCond .eq 29, 3) := by decide +kernel
theorem dX5_countBlocked_46 : decode cX5_countBlocked 46 = .ok (.aload_n 0, 1) := by decide +kernel
theorem dX5_countBlocked_47 : decode cX5_countBlocked 47 = .ok (.lload_n 1, 1) := by decide +kernel
theorem dX5_countBlocked_48 : decode cX5_countBlocked 48 = .ok (.iload 7, 2) := by decide +kernel
theorem dX5_countBlocked_50 : decode cX5_countBlocked 50 = .ok (.invokestatic 42, 3) := by decide +kernel
theorem dX5_countBlocked_53 : decode cX5_countBlocked 53 = .ok (.lload_n 1, 1) := by decide +kernel
theorem dX5_countBlocked_54 : decode cX5_countBlocked 54 = .ok (.iload 7, 2) := by decide +kernel
theorem dX5_countBlocked_56 : decode cX5_countBlocked 56 = .ok (.invokestatic 45, 3) := by decide +kernel
theorem dX5_countBlocked_59 : decode cX5_countBlocked 59 = .ok (.iload 4, 2) := by decide +kernel
theorem dX5_countBlocked_61 : decode cX5_countBlocked 61 = .ok (.iload 5, 2) := by decide +kernel
theorem dX5_countBlocked_63 : decode cX5_countBlocked 63 = .ok (.invokevirtual 48, 3) := by decide +kernel
theorem dX5_countBlocked_66 : decode cX5_countBlocked 66 = .ok (.ifCond .ne 6, 3) := by decide +kernel
theorem dX5_countBlocked_69 : decode cX5_countBlocked 69 = .ok (.iinc 6 1, 3) := by decide +kernel
theorem dX5_countBlocked_72 : decode cX5_countBlocked 72 = .ok (.iinc 7 1, 3) := by decide +kernel
theorem dX5_countBlocked_75 : decode cX5_countBlocked 75 = .ok (.goto (-48), 3) := by decide +kernel
theorem dX5_countBlocked_78 : decode cX5_countBlocked 78 = .ok (.iload 6, 2) := by decide +kernel
theorem dX5_countBlocked_80 : decode cX5_countBlocked 80 = .ok (.ireturn, 1) := by decide +kernel
theorem dX5_youthOf_0 : decode cX5_youthOf 0 = .ok (.iconst 0, 1) := by decide +kernel
theorem dX5_youthOf_1 : decode cX5_youthOf 1 = .ok (.istore 4, 2) := by decide +kernel
theorem dX5_youthOf_3 : decode cX5_youthOf 3 = .ok (.iconst 3, 1) := by decide +kernel
theorem dX5_youthOf_4 : decode cX5_youthOf 4 = .ok (.iload_n 3, 1) := by decide +kernel
theorem dX5_youthOf_5 : decode cX5_youthOf 5 = .ok (.imul, 1) := by decide +kernel
theorem dX5_youthOf_6 : decode cX5_youthOf 6 = .ok (.istore 5, 2) := by decide +kernel
theorem dX5_youthOf_8 : decode cX5_youthOf 8 = .ok (.iload 5, 2) := by decide +kernel
theorem dX5_youthOf_10 : decode cX5_youthOf 10 = .ok (.iconst 3, 1) := by decide +kernel
theorem dX5_youthOf_11 : decode cX5_youthOf 11 = .ok (.iload_n 3, 1) := by decide +kernel
theorem dX5_youthOf_12 : decode cX5_youthOf 12 = .ok (.imul, 1) := by decide +kernel
theorem dX5_youthOf_13 : decode cX5_youthOf 13 = .ok (.iconst 3, 1) := by decide +kernel
theorem dX5_youthOf_14 : decode cX5_youthOf 14 = .ok (.iadd, 1) := by decide +kernel
theorem dX5_youthOf_15 : decode cX5_youthOf 15 = .ok (.if_icmp .ge 38, 3) := by decide +kernel
theorem dX5_youthOf_18 : decode cX5_youthOf 18 = .ok (.lload_n 1, 1) := by decide +kernel
theorem dX5_youthOf_19 : decode cX5_youthOf 19 = .ok (.iload 5, 2) := by decide +kernel
theorem dX5_youthOf_21 : decode cX5_youthOf 21 = .ok (.invokestatic 52, 3) := by decide +kernel
theorem dX5_youthOf_24 : decode cX5_youthOf 24 = .ok (.ifCond .eq 23, 3) := by decide +kernel
theorem dX5_youthOf_27 : decode cX5_youthOf 27 = .ok (.iload 4, 2) := by decide +kernel
theorem dX5_youthOf_29 : decode cX5_youthOf 29 = .ok (.iconst 0, 1) := by decide +kernel
theorem dX5_youthOf_30 : decode cX5_youthOf 30 = .ok (.aload_n 0, 1) := by decide +kernel
theorem dX5_youthOf_31 : decode cX5_youthOf 31 = .ok (.getfield 18, 3) := by decide +kernel
theorem dX5_youthOf_34 : decode cX5_youthOf 34 = .ok (.lload_n 1, 1) := by decide +kernel
theorem dX5_youthOf_35 : decode cX5_youthOf 35 = .ok (.iload 5, 2) := by decide +kernel
theorem dX5_youthOf_37 : decode cX5_youthOf 37 = .ok (.invokestatic 45, 3) := by decide +kernel
theorem dX5_youthOf_40 : decode cX5_youthOf 40 = .ok (.isub, 1) := by decide +kernel
theorem dX5_youthOf_41 : decode cX5_youthOf 41 = .ok (.invokestatic 56, 3) := by decide +kernel
theorem dX5_youthOf_44 : decode cX5_youthOf 44 = .ok (.iadd, 1) := by decide +kernel
theorem dX5_youthOf_45 : decode cX5_youthOf 45 = .ok (.istore 4, 2) := by decide +kernel
theorem dX5_youthOf_47 : decode cX5_youthOf 47 = .ok (.iinc 5 1, 3) := by decide +kernel
theorem dX5_youthOf_50 : decode cX5_youthOf 50 = .ok (.goto (-42), 3) := by decide +kernel
theorem dX5_youthOf_53 : decode cX5_youthOf 53 = .ok (.iload 4, 2) := by decide +kernel
theorem dX5_youthOf_55 : decode cX5_youthOf 55 = .ok (.ireturn, 1) := by decide +kernel
theorem dX5_ending_0 : decode cX5_ending 0 = .ok (.lload_n 1, 1) := by decide +kernel
theorem dX5_ending_1 : decode cX5_ending 1 = .ok (.iconst 0, 1) := by decide +kernel
theorem dX5_ending_2 : decode cX5_ending 2 = .ok (.invokestatic 52, 3) := by decide +kernel
theorem dX5_ending_5 : decode cX5_ending 5 = .ok (.ifCond .ne 8, 3) := by decide +kernel
theorem dX5_ending_8 : decode cX5_ending 8 = .ok (.iconst 1, 1) := by decide +kernel
theorem dX5_ending_9 : decode cX5_ending 9 = .ok (.invokestatic 61, 3) := by decide +kernel
theorem dX5_ending_12 : decode cX5_ending 12 = .ok (.ireturn, 1) := by decide +kernel
theorem dX5_ending_13 : decode cX5_ending 13 = .ok (.lload_n 1, 1) := by decide +kernel
theorem dX5_ending_14 : decode cX5_ending 14 = .ok (.iconst 3, 1) := by decide +kernel
theorem dX5_ending_15 : decode cX5_ending 15 = .ok (.invokestatic 52, 3) := by decide +kernel
theorem dX5_ending_18 : decode cX5_ending 18 = .ok (.ifCond .ne 8, 3) := by decide +kernel
theorem dX5_ending_21 : decode cX5_ending 21 = .ok (.iconst 0, 1) := by decide +kernel
theorem dX5_ending_22 : decode cX5_ending 22 = .ok (.invokestatic 61, 3) := by decide +kernel
theorem dX5_ending_25 : decode cX5_ending 25 = .ok (.ireturn, 1) := by decide +kernel
theorem dX5_ending_26 : decode cX5_ending 26 = .ok (.lload_n 1, 1) := by decide +kernel
theorem dX5_ending_27 : decode cX5_ending 27 = .ok (.invokestatic 64, 3) := by decide +kernel
theorem dX5_ending_30 : decode cX5_ending 30 = .ok (.istore_n 3, 1) := by decide +kernel
theorem dX5_ending_31 : decode cX5_ending 31 = .ok (.aload_n 0, 1) := by decide +kernel
theorem dX5_ending_32 : decode cX5_ending 32 = .ok (.lload_n 1, 1) := by decide +kernel
theorem dX5_ending_33 : decode cX5_ending 33 = .ok (.iload_n 3, 1) := by decide +kernel
theorem dX5_ending_34 : decode cX5_ending 34 = .ok (.invokevirtual 68, 3) := by decide +kernel
theorem dX5_ending_37 : decode cX5_ending 37 = .ok (.ifCond .eq 5, 3) := by decide +kernel
theorem dX5_ending_40 : decode cX5_ending 40 = .ok (.iconst 0, 1) := by decide +kernel
theorem dX5_ending_41 : decode cX5_ending 41 = .ok (.ireturn, 1) := by decide +kernel
theorem dX5_ending_42 : decode cX5_ending 42 = .ok (.aload_n 0, 1) := by decide +kernel
theorem dX5_ending_43 : decode cX5_ending 43 = .ok (.lload_n 1, 1) := by decide +kernel
theorem dX5_ending_44 : decode cX5_ending 44 = .ok (.iconst 1, 1) := by decide +kernel
theorem dX5_ending_45 : decode cX5_ending 45 = .ok (.iload_n 3, 1) := by decide +kernel
theorem dX5_ending_46 : decode cX5_ending 46 = .ok (.isub, 1) := by decide +kernel
theorem dX5_ending_47 : decode cX5_ending 47 = .ok (.invokevirtual 68, 3) := by decide +kernel
theorem dX5_ending_50 : decode cX5_ending 50 = .ok (.ifCond .eq 12, 3) := by decide +kernel
theorem dX5_ending_53 : decode cX5_ending 53 = .ok (.iconst 1, 1) := by decide +kernel
theorem dX5_ending_54 : decode cX5_ending 54 = .ok (.iload_n 3, 1) := by decide +kernel
theorem dX5_ending_55 : decode cX5_ending 55 = .ok (.isub, 1) := by decide +kernel
theorem dX5_ending_56 : decode cX5_ending 56 = .ok (.invokestatic 61, 3) := by decide +kernel
theorem dX5_ending_59 : decode cX5_ending 59 = .ok (.goto 4, 3) := by decide +kernel
theorem dX5_ending_62 : decode cX5_ending 62 = .ok (.iconst 3, 1) := by decide +kernel
theorem dX5_ending_63 : decode cX5_ending 63 = .ok (.ireturn, 1) := by decide +kernel
theorem dX5_wonBy_0 : decode cX5_wonBy 0 = .ok (.iload_n 0, 1) := by decide +kernel
theorem dX5_wonBy_1 : decode cX5_wonBy 1 = .ok (.iconst 1, 1) := by decide +kernel
theorem dX5_wonBy_2 : decode cX5_wonBy 2 = .ok (.iadd, 1) := by decide +kernel
theorem dX5_wonBy_3 : decode cX5_wonBy 3 = .ok (.ireturn, 1) := by decide +kernel
theorem dX5_list_0 : decode cX5_list 0 = .ok (.iload 4, 2) := by decide +kernel
theorem dX5_list_2 : decode cX5_list 2 = .ok (.ifCond .lt 19, 3) := by decide +kernel
theorem dX5_list_5 : decode cX5_list 5 = .ok (.lload_n 1, 1) := by decide +kernel
theorem dX5_list_6 : decode cX5_list 6 = .ok (.iconst 0, 1) := by decide +kernel
theorem dX5_list_7 : decode cX5_list 7 = .ok (.invokestatic 52, 3) := by decide +kernel
theorem dX5_list_10 : decode cX5_list 10 = .ok (.ifCond .eq 11, 3) := by decide +kernel
theorem dX5_list_13 : decode cX5_list 13 = .ok (.lload_n 1, 1) := by decide +kernel
theorem dX5_list_14 : decode cX5_list 14 = .ok (.iconst 3, 1) := by decide +kernel
theorem dX5_list_15 : decode cX5_list 15 = .ok (.invokestatic 52, 3) := by decide +kernel
theorem dX5_list_18 : decode cX5_list 18 = .ok (.ifCond .ne 5, 3) := by decide +kernel
theorem dX5_list_21 : decode cX5_list 21 = .ok (.iconst 0, 1) := by decide +kernel
theorem dX5_list_22 : decode cX5_list 22 = .ok (.ireturn, 1) := by decide +kernel
theorem dX5_list_23 : decode cX5_list 23 = .ok (.lload_n 1, 1) := by decide +kernel
theorem dX5_list_24 : decode cX5_list 24 = .ok (.invokestatic 64, 3) := by decide +kernel
theorem dX5_list_27 : decode cX5_list 27 = .ok (.istore 5, 2) := by decide +kernel
theorem dX5_list_29 : decode cX5_list 29 = .ok (.lload_n 1, 1) := by decide +kernel
theorem dX5_list_30 : decode cX5_list 30 = .ok (.iload 5, 2) := by decide +kernel
theorem dX5_list_32 : decode cX5_list 32 = .ok (.invokestatic 36, 3) := by decide +kernel
theorem dX5_list_35 : decode cX5_list 35 = .ok (.istore 6, 2) := by decide +kernel
theorem dX5_list_37 : decode cX5_list 37 = .ok (.iload 6, 2) := by decide +kernel
theorem dX5_list_39 : decode cX5_list 39 = .ok (.lload_n 1, 1) := by decide +kernel
theorem dX5_list_40 : decode cX5_list 40 = .ok (.iconst 1, 1) := by decide +kernel
theorem dX5_list_41 : decode cX5_list 41 = .ok (.iload 5, 2) := by decide +kernel
theorem dX5_list_43 : decode cX5_list 43 = .ok (.isub, 1) := by decide +kernel
theorem dX5_list_44 : decode cX5_list 44 = .ok (.invokestatic 36, 3) := by decide +kernel
theorem dX5_list_47 : decode cX5_list 47 = .ok (.ior, 1) := by decide +kernel
theorem dX5_list_48 : decode cX5_list 48 = .ok (.istore 7, 2) := by decide +kernel
theorem dX5_list_50 : decode cX5_list 50 = .ok (.iconst 0, 1) := by decide +kernel
theorem dX5_list_51 : decode cX5_list 51 = .ok (.istore 8, 2) := by decide +kernel
theorem dX5_list_53 : decode cX5_list 53 = .ok (.iconst 3, 1) := by decide +kernel
theorem dX5_list_54 : decode cX5_list 54 = .ok (.iload 5, 2) := by decide +kernel
theorem dX5_list_56 : decode cX5_list 56 = .ok (.imul, 1) := by decide +kernel
theorem dX5_list_57 : decode cX5_list 57 = .ok (.istore 9, 2) := by decide +kernel
theorem dX5_list_59 : decode cX5_list 59 = .ok (.iload 9, 2) := by decide +kernel
theorem dX5_list_61 : decode cX5_list 61 = .ok (.iconst 3, 1) := by decide +kernel
theorem dX5_list_62 : decode cX5_list 62 = .ok (.iload 5, 2) := by decide +kernel
theorem dX5_list_64 : decode cX5_list 64 = .ok (.imul, 1) := by decide +kernel
theorem dX5_list_65 : decode cX5_list 65 = .ok (.iconst 3, 1) := by decide +kernel
theorem dX5_list_66 : decode cX5_list 66 = .ok (.iadd, 1) := by decide +kernel
theorem dX5_list_67 : decode cX5_list 67 = .ok (.if_icmp .ge 99, 3) := by decide +kernel
theorem dX5_list_70 : decode cX5_list 70 = .ok (.aload_n 0, 1) := by decide +kernel
theorem dX5_list_71 : decode cX5_list 71 = .ok (.lload_n 1, 1) := by decide +kernel
theorem dX5_list_72 : decode cX5_list 72 = .ok (.iload 9, 2) := by decide +kernel
theorem dX5_list_74 : decode cX5_list 74 = .ok (.invokestatic 42, 3) := by decide +kernel
theorem dX5_list_77 : decode cX5_list 77 = .ok (.lload_n 1, 1) := by decide +kernel
theorem dX5_list_78 : decode cX5_list 78 = .ok (.iload 9, 2) := by decide +kernel
theorem dX5_list_80 : decode cX5_list 80 = .ok (.invokestatic 45, 3) := by decide +kernel
theorem dX5_list_83 : decode cX5_list 83 = .ok (.iload 6, 2) := by decide +kernel
theorem dX5_list_85 : decode cX5_list 85 = .ok (.iload 7, 2) := by decide +kernel
theorem dX5_list_87 : decode cX5_list 87 = .ok (.invokevirtual 48, 3) := by decide +kernel
theorem dX5_list_90 : decode cX5_list 90 = .ok (.istore 10, 2) := by decide +kernel
theorem dX5_list_92 : decode cX5_list 92 = .ok (.iconst 0, 1) := by decide +kernel
theorem dX5_list_93 : decode cX5_list 93 = .ok (.istore 11, 2) := by decide +kernel
theorem dX5_list_95 : decode cX5_list 95 = .ok (.iload 11, 2) := by decide +kernel
theorem dX5_list_97 : decode cX5_list 97 = .ok (.bipush 25, 2) := by decide +kernel
theorem dX5_list_99 : decode cX5_list 99 = .ok (.if_icmp .ge 61, 3) := by decide +kernel
theorem dX5_list_102 : decode cX5_list 102 = .ok (.iload 10, 2) := by decide +kernel
theorem dX5_list_104 : decode cX5_list 104 = .ok (.ifCond .eq 56, 3) := by decide +kernel
theorem dX5_list_107 : decode cX5_list 107 = .ok (.iload 4, 2) := by decide +kernel
theorem dX5_list_109 : decode cX5_list 109 = .ok (.iload 8, 2) := by decide +kernel
theorem dX5_list_111 : decode cX5_list 111 = .ok (.iadd, 1) := by decide +kernel
theorem dX5_list_112 : decode cX5_list 112 = .ok (.aload_n 3, 1) := by decide +kernel
theorem dX5_list_113 : decode cX5_list 113 = .ok (.arraylength, 1) := by decide +kernel
theorem dX5_list_114 : decode cX5_list 114 = .ok (.if_icmp .ge 46, 3) := by decide +kernel
theorem dX5_list_117 : decode cX5_list 117 = .ok (.iload 10, 2) := by decide +kernel
theorem dX5_list_119 : decode cX5_list 119 = .ok (.iload 10, 2) := by decide +kernel
theorem dX5_list_121 : decode cX5_list 121 = .ok (.ineg, 1) := by decide +kernel
theorem dX5_list_122 : decode cX5_list 122 = .ok (.iand, 1) := by decide +kernel
theorem dX5_list_123 : decode cX5_list 123 = .ok (.istore 12, 2) := by decide +kernel
theorem dX5_list_125 : decode cX5_list 125 = .ok (.aload_n 3, 1) := by decide +kernel
theorem dX5_list_126 : decode cX5_list 126 = .ok (.iload 4, 2) := by decide +kernel
theorem dX5_list_128 : decode cX5_list 128 = .ok (.iload 8, 2) := by decide +kernel
theorem dX5_list_130 : decode cX5_list 130 = .ok (.iadd, 1) := by decide +kernel
theorem dX5_list_131 : decode cX5_list 131 = .ok (.iload 9, 2) := by decide +kernel
theorem dX5_list_133 : decode cX5_list 133 = .ok (.iconst 5, 1) := by decide +kernel
theorem dX5_list_134 : decode cX5_list 134 = .ok (.ishl, 1) := by decide +kernel
theorem dX5_list_135 : decode cX5_list 135 = .ok (.iload 12, 2) := by decide +kernel
theorem dX5_list_137 : decode cX5_list 137 = .ok (.iconst 1, 1) := by decide +kernel
theorem dX5_list_138 : decode cX5_list 138 = .ok (.isub, 1) := by decide +kernel
theorem dX5_list_139 : decode cX5_list 139 = .ok (.invokestatic 71, 3) := by decide +kernel
theorem dX5_list_142 : decode cX5_list 142 = .ok (.ior, 1) := by decide +kernel
theorem dX5_list_143 : decode cX5_list 143 = .ok (.iastore, 1) := by decide +kernel
theorem dX5_list_144 : decode cX5_list 144 = .ok (.iinc 8 1, 3) := by decide +kernel
theorem dX5_list_147 : decode cX5_list 147 = .ok (.iload 10, 2) := by decide +kernel
theorem dX5_list_149 : decode cX5_list 149 = .ok (.iload 12, 2) := by decide +kernel
theorem dX5_list_151 : decode cX5_list 151 = .ok (.ixor, 1) := by decide +kernel
theorem dX5_list_152 : decode cX5_list 152 = .ok (.istore 10, 2) := by decide +kernel
theorem dX5_list_154 : decode cX5_list 154 = .ok (.iinc 11 1, 3) := by decide +kernel
theorem dX5_list_157 : decode cX5_list 157 = .ok (.goto (-62), 3) := by decide +kernel
theorem dX5_list_160 : decode cX5_list 160 = .ok (.iinc 9 1, 3) := by decide +kernel
theorem dX5_list_163 : decode cX5_list 163 = .ok (.goto (-104), 3) := by decide +kernel
theorem dX5_list_166 : decode cX5_list 166 = .ok (.iload 8, 2) := by decide +kernel
theorem dX5_list_168 : decode cX5_list 168 = .ok (.ireturn, 1) := by decide +kernel
theorem dX6_atEnd_0 : decode cX6_atEnd 0 = .ok (.iload_n 0, 1) := by decide +kernel
theorem dX6_atEnd_1 : decode cX6_atEnd 1 = .ok (.iconst 3, 1) := by decide +kernel
theorem dX6_atEnd_2 : decode cX6_atEnd 2 = .ok (.if_icmp .ne 7, 3) := by decide +kernel
theorem dX6_atEnd_5 : decode cX6_atEnd 5 = .ok (.sipush 128, 3) := by decide +kernel
theorem dX6_atEnd_8 : decode cX6_atEnd 8 = .ok (.ireturn, 1) := by decide +kernel
theorem dX6_atEnd_9 : decode cX6_atEnd 9 = .ok (.iload_n 0, 1) := by decide +kernel
theorem dX6_atEnd_10 : decode cX6_atEnd 10 = .ok (.iload_n 1, 1) := by decide +kernel
theorem dX6_atEnd_11 : decode cX6_atEnd 11 = .ok (.invokestatic 11, 3) := by decide +kernel
theorem dX6_atEnd_14 : decode cX6_atEnd 14 = .ok (.if_icmp .ne 9, 3) := by decide +kernel
theorem dX6_atEnd_17 : decode cX6_atEnd 17 = .ok (.sipush 512, 3) := by decide +kernel
theorem dX6_atEnd_20 : decode cX6_atEnd 20 = .ok (.goto 4, 3) := by decide +kernel
theorem dX6_atEnd_23 : decode cX6_atEnd 23 = .ok (.iconst 1, 1) := by decide +kernel
theorem dX6_atEnd_24 : decode cX6_atEnd 24 = .ok (.ireturn, 1) := by decide +kernel
theorem dX6_before_0 : decode cX6_before 0 = .ok (.iload_n 0, 1) := by decide +kernel
theorem dX6_before_1 : decode cX6_before 1 = .ok (.sipush 128, 3) := by decide +kernel
theorem dX6_before_4 : decode cX6_before 4 = .ok (.if_icmp .ge 13, 3) := by decide +kernel
theorem dX6_before_7 : decode cX6_before 7 = .ok (.sipush 512, 3) := by decide +kernel
theorem dX6_before_10 : decode cX6_before 10 = .ok (.iload_n 0, 1) := by decide +kernel
theorem dX6_before_11 : decode cX6_before 11 = .ok (.iconst 1, 1) := by decide +kernel
theorem dX6_before_12 : decode cX6_before 12 = .ok (.isub, 1) := by decide +kernel
theorem dX6_before_13 : decode cX6_before 13 = .ok (.iconst 1, 1) := by decide +kernel
theorem dX6_before_14 : decode cX6_before 14 = .ok (.iadd, 1) := by decide +kernel
theorem dX6_before_15 : decode cX6_before 15 = .ok (.isub, 1) := by decide +kernel
theorem dX6_before_16 : decode cX6_before 16 = .ok (.ireturn, 1) := by decide +kernel
theorem dX6_before_17 : decode cX6_before 17 = .ok (.iload_n 0, 1) := by decide +kernel
theorem dX6_before_18 : decode cX6_before 18 = .ok (.sipush 256, 3) := by decide +kernel
theorem dX6_before_21 : decode cX6_before 21 = .ok (.if_icmp .ge 9, 3) := by decide +kernel
theorem dX6_before_24 : decode cX6_before 24 = .ok (.iload_n 0, 1) := by decide +kernel
theorem dX6_before_25 : decode cX6_before 25 = .ok (.iconst 1, 1) := by decide +kernel
theorem dX6_before_26 : decode cX6_before 26 = .ok (.iadd, 1) := by decide +kernel
theorem dX6_before_27 : decode cX6_before 27 = .ok (.goto 10, 3) := by decide +kernel
theorem dX6_before_30 : decode cX6_before 30 = .ok (.sipush 513, 3) := by decide +kernel
theorem dX6_before_33 : decode cX6_before 33 = .ok (.iload_n 0, 1) := by decide +kernel
theorem dX6_before_34 : decode cX6_before 34 = .ok (.isub, 1) := by decide +kernel
theorem dX6_before_35 : decode cX6_before 35 = .ok (.iconst 1, 1) := by decide +kernel
theorem dX6_before_36 : decode cX6_before 36 = .ok (.iadd, 1) := by decide +kernel
theorem dX6_before_37 : decode cX6_before 37 = .ok (.ireturn, 1) := by decide +kernel
theorem dX6_bringing_0 : decode cX6_bringing 0 = .ok (.iload_n 0, 1) := by decide +kernel
theorem dX6_bringing_1 : decode cX6_bringing 1 = .ok (.sipush 128, 3) := by decide +kernel
theorem dX6_bringing_4 : decode cX6_bringing 4 = .ok (.if_icmp .ge 5, 3) := by decide +kernel
theorem dX6_bringing_7 : decode cX6_bringing 7 = .ok (.iconst 2, 1) := by decide +kernel
theorem dX6_bringing_8 : decode cX6_bringing 8 = .ok (.ireturn, 1) := by decide +kernel
theorem dX6_bringing_9 : decode cX6_bringing 9 = .ok (.iload_n 0, 1) := by decide +kernel
theorem dX6_bringing_10 : decode cX6_bringing 10 = .ok (.sipush 256, 3) := by decide +kernel
theorem dX6_bringing_13 : decode cX6_bringing 13 = .ok (.if_icmp .ge 7, 3) := by decide +kernel
theorem dX6_bringing_16 : decode cX6_bringing 16 = .ok (.iconst 0, 1) := by decide +kernel
theorem dX6_bringing_17 : decode cX6_bringing 17 = .ok (.goto 4, 3) := by decide +kernel
theorem dX6_bringing_20 : decode cX6_bringing 20 = .ok (.iconst 1, 1) := by decide +kernel
theorem dX6_bringing_21 : decode cX6_bringing 21 = .ok (.ireturn, 1) := by decide +kernel
theorem dX6_length_0 : decode cX6_length 0 = .ok (.iload_n 0, 1) := by decide +kernel
theorem dX6_length_1 : decode cX6_length 1 = .ok (.sipush 128, 3) := by decide +kernel
theorem dX6_length_4 : decode cX6_length 4 = .ok (.if_icmp .ge 7, 3) := by decide +kernel
theorem dX6_length_7 : decode cX6_length 7 = .ok (.iload_n 0, 1) := by decide +kernel
theorem dX6_length_8 : decode cX6_length 8 = .ok (.iconst 1, 1) := by decide +kernel
theorem dX6_length_9 : decode cX6_length 9 = .ok (.isub, 1) := by decide +kernel
theorem dX6_length_10 : decode cX6_length 10 = .ok (.ireturn, 1) := by decide +kernel
theorem dX6_length_11 : decode cX6_length 11 = .ok (.iload_n 0, 1) := by decide +kernel
theorem dX6_length_12 : decode cX6_length 12 = .ok (.sipush 256, 3) := by decide +kernel
theorem dX6_length_15 : decode cX6_length 15 = .ok (.if_icmp .ge 11, 3) := by decide +kernel
theorem dX6_length_18 : decode cX6_length 18 = .ok (.iload_n 0, 1) := by decide +kernel
theorem dX6_length_19 : decode cX6_length 19 = .ok (.sipush 128, 3) := by decide +kernel
theorem dX6_length_22 : decode cX6_length 22 = .ok (.isub, 1) := by decide +kernel
theorem dX6_length_23 : decode cX6_length 23 = .ok (.goto 8, 3) := by decide +kernel
theorem dX6_length_26 : decode cX6_length 26 = .ok (.sipush 512, 3) := by decide +kernel
theorem dX6_length_29 : decode cX6_length 29 = .ok (.iload_n 0, 1) := by decide +kernel
theorem dX6_length_30 : decode cX6_length 30 = .ok (.isub, 1) := by decide +kernel
theorem dX6_length_31 : decode cX6_length 31 = .ok (.ireturn, 1) := by decide +kernel
theorem dX7_init_0 : decode cX7_init 0 = .ok (.aload_n 0, 1) := by decide +kernel
theorem dX7_init_1 : decode cX7_init 1 = .ok (.invokespecial 3, 3) := by decide +kernel
theorem dX7_init_4 : decode cX7_init 4 = .ok (.aload_n 0, 1) := by decide +kernel
theorem dX7_init_5 : decode cX7_init 5 = .ok (.ldc 11, 2) := by decide +kernel
theorem dX7_init_7 : decode cX7_init 7 = .ok (.newarray .long, 2) := by decide +kernel
theorem dX7_init_9 : decode cX7_init 9 = .ok (.putfield 12, 3) := by decide +kernel
theorem dX7_init_12 : decode cX7_init 12 = .ok (.aload_n 0, 1) := by decide +kernel
theorem dX7_init_13 : decode cX7_init 13 = .ok (.ldc 11, 2) := by decide +kernel
theorem dX7_init_15 : decode cX7_init 15 = .ok (.newarray .int, 2) := by decide +kernel
theorem dX7_init_17 : decode cX7_init 17 = .ok (.putfield 16, 3) := by decide +kernel
theorem dX7_init_20 : decode cX7_init 20 = .ok (.aload_n 0, 1) := by decide +kernel
theorem dX7_init_21 : decode cX7_init 21 = .ok (.iconst 0, 1) := by decide +kernel
theorem dX7_init_22 : decode cX7_init 22 = .ok (.putfield 20, 3) := by decide +kernel
theorem dX7_init_25 : decode cX7_init 25 = .ok (.aload_n 0, 1) := by decide +kernel
theorem dX7_init_26 : decode cX7_init 26 = .ok (.bipush 64, 2) := by decide +kernel
theorem dX7_init_28 : decode cX7_init 28 = .ok (.newarray .long, 2) := by decide +kernel
theorem dX7_init_30 : decode cX7_init 30 = .ok (.putfield 24, 3) := by decide +kernel
theorem dX7_init_33 : decode cX7_init 33 = .ok (.aload_n 0, 1) := by decide +kernel
theorem dX7_init_34 : decode cX7_init 34 = .ok (.bipush 64, 2) := by decide +kernel
theorem dX7_init_36 : decode cX7_init 36 = .ok (.newarray .int, 2) := by decide +kernel
theorem dX7_init_38 : decode cX7_init 38 = .ok (.putfield 27, 3) := by decide +kernel
theorem dX7_init_41 : decode cX7_init 41 = .ok (.aload_n 0, 1) := by decide +kernel
theorem dX7_init_42 : decode cX7_init 42 = .ok (.bipush 64, 2) := by decide +kernel
theorem dX7_init_44 : decode cX7_init 44 = .ok (.newarray .int, 2) := by decide +kernel
theorem dX7_init_46 : decode cX7_init 46 = .ok (.putfield 30, 3) := by decide +kernel
theorem dX7_init_49 : decode cX7_init 49 = .ok (.aload_n 0, 1) := by decide +kernel
theorem dX7_init_50 : decode cX7_init 50 = .ok (.bipush 64, 2) := by decide +kernel
theorem dX7_init_52 : decode cX7_init 52 = .ok (.newarray .int, 2) := by decide +kernel
theorem dX7_init_54 : decode cX7_init 54 = .ok (.putfield 33, 3) := by decide +kernel
theorem dX7_init_57 : decode cX7_init 57 = .ok (.aload_n 0, 1) := by decide +kernel
theorem dX7_init_58 : decode cX7_init 58 = .ok (.bipush 64, 2) := by decide +kernel
theorem dX7_init_60 : decode cX7_init 60 = .ok (.newarray .int, 2) := by decide +kernel
theorem dX7_init_62 : decode cX7_init 62 = .ok (.putfield 36, 3) := by decide +kernel
theorem dX7_init_65 : decode cX7_init 65 = .ok (.aload_n 0, 1) := by decide +kernel
theorem dX7_init_66 : decode cX7_init 66 = .ok (.sipush 1536, 3) := by decide +kernel
theorem dX7_init_69 : decode cX7_init 69 = .ok (.newarray .int, 2) := by decide +kernel
theorem dX7_init_71 : decode cX7_init 71 = .ok (.putfield 39, 3) := by decide +kernel
theorem dX7_init_74 : decode cX7_init 74 = .ok (.aload_n 0, 1) := by decide +kernel
theorem dX7_init_75 : decode cX7_init 75 = .ok (.iconst 0, 1) := by decide +kernel
theorem dX7_init_76 : decode cX7_init 76 = .ok (.putfield 42, 3) := by decide +kernel
theorem dX7_init_79 : decode cX7_init 79 = .ok (.aload_n 0, 1) := by decide +kernel
theorem dX7_init_80 : decode cX7_init 80 = .ok (.lconst 0, 1) := by decide +kernel
theorem dX7_init_81 : decode cX7_init 81 = .ok (.putfield 45, 3) := by decide +kernel
theorem dX7_init_84 : decode cX7_init 84 = .ok (.aload_n 0, 1) := by decide +kernel
theorem dX7_init_85 : decode cX7_init 85 = .ok (.iconst (-1), 1) := by decide +kernel
theorem dX7_init_86 : decode cX7_init 86 = .ok (.putfield 49, 3) := by decide +kernel
theorem dX7_init_89 : decode cX7_init 89 = .ok (.aload_n 0, 1) := by decide +kernel
theorem dX7_init_90 : decode cX7_init 90 = .ok (.iconst 0, 1) := by decide +kernel
theorem dX7_init_91 : decode cX7_init 91 = .ok (.putfield 52, 3) := by decide +kernel
theorem dX7_init_94 : decode cX7_init 94 = .ok (.aload_n 0, 1) := by decide +kernel
theorem dX7_init_95 : decode cX7_init 95 = .ok (.iconst 0, 1) := by decide +kernel
theorem dX7_init_96 : decode cX7_init 96 = .ok (.putfield 55, 3) := by decide +kernel
theorem dX7_init_99 : decode cX7_init 99 = .ok (.aload_n 0, 1) := by decide +kernel
theorem dX7_init_100 : decode cX7_init 100 = .ok (.iconst 0, 1) := by decide +kernel
theorem dX7_init_101 : decode cX7_init 101 = .ok (.putfield 59, 3) := by decide +kernel
theorem dX7_init_104 : decode cX7_init 104 = .ok (.aload_n 0, 1) := by decide +kernel
theorem dX7_init_105 : decode cX7_init 105 = .ok (.bipush (-6), 2) := by decide +kernel
theorem dX7_init_107 : decode cX7_init 107 = .ok (.putfield 62, 3) := by decide +kernel
theorem dX7_init_110 : decode cX7_init 110 = .ok (.return_, 1) := by decide +kernel
theorem dX7_goThrough_0 : decode cX7_goThrough 0 = .ok (.aload_n 0, 1) := by decide +kernel
theorem dX7_goThrough_1 : decode cX7_goThrough 1 = .ok (.getfield 49, 3) := by decide +kernel
theorem dX7_goThrough_4 : decode cX7_goThrough 4 = .ok (.aload_n 1, 1) := by decide +kernel
theorem dX7_goThrough_5 : decode cX7_goThrough 5 = .ok (.invokevirtual 65, 3) := by decide +kernel
theorem dX7_goThrough_8 : decode cX7_goThrough 8 = .ok (.if_icmp .ne 13, 3) := by decide +kernel
theorem dX7_goThrough_11 : decode cX7_goThrough 11 = .ok (.aload_n 0, 1) := by decide +kernel
theorem dX7_goThrough_12 : decode cX7_goThrough 12 = .ok (.getfield 45, 3) := by decide +kernel
theorem dX7_goThrough_15 : decode cX7_goThrough 15 = .ok (.lload_n 2, 1) := by decide +kernel
theorem dX7_goThrough_16 : decode cX7_goThrough 16 = .ok (.lcmp, 1) := by decide +kernel
theorem dX7_goThrough_17 : decode cX7_goThrough 17 = .ok (.ifCond .ne 4, 3) := by decide +kernel
theorem dX7_goThrough_20 : decode cX7_goThrough 20 = .ok (.return_, 1) := by decide +kernel
theorem dX7_goThrough_21 : decode cX7_goThrough 21 = .ok (.aload_n 0, 1) := by decide +kernel
theorem dX7_goThrough_22 : decode cX7_goThrough 22 = .ok (.aload_n 1, 1) := by decide +kernel
theorem dX7_goThrough_23 : decode cX7_goThrough 23 = .ok (.invokevirtual 65, 3) := by decide +kernel
theorem dX7_goThrough_26 : decode cX7_goThrough 26 = .ok (.putfield 49, 3) := by decide +kernel
theorem dX7_goThrough_29 : decode cX7_goThrough 29 = .ok (.aload_n 0, 1) := by decide +kernel
theorem dX7_goThrough_30 : decode cX7_goThrough 30 = .ok (.lload_n 2, 1) := by decide +kernel
theorem dX7_goThrough_31 : decode cX7_goThrough 31 = .ok (.putfield 45, 3) := by decide +kernel
theorem dX7_goThrough_34 : decode cX7_goThrough 34 = .ok (.aload_n 0, 1) := by decide +kernel
theorem dX7_goThrough_35 : decode cX7_goThrough 35 = .ok (.dup, 1) := by decide +kernel
theorem dX7_goThrough_36 : decode cX7_goThrough 36 = .ok (.getfield 20, 3) := by decide +kernel
theorem dX7_goThrough_39 : decode cX7_goThrough 39 = .ok (.iconst 1, 1) := by decide +kernel
theorem dX7_goThrough_40 : decode cX7_goThrough 40 = .ok (.iadd, 1) := by decide +kernel
theorem dX7_goThrough_41 : decode cX7_goThrough 41 = .ok (.putfield 20, 3) := by decide +kernel
theorem dX7_goThrough_44 : decode cX7_goThrough 44 = .ok (.aload_n 0, 1) := by decide +kernel
theorem dX7_goThrough_45 : decode cX7_goThrough 45 = .ok (.iconst 0, 1) := by decide +kernel
theorem dX7_goThrough_46 : decode cX7_goThrough 46 = .ok (.putfield 42, 3) := by decide +kernel
theorem dX7_goThrough_49 : decode cX7_goThrough 49 = .ok (.aload_n 0, 1) := by decide +kernel
theorem dX7_goThrough_50 : decode cX7_goThrough 50 = .ok (.iconst 0, 1) := by decide +kernel
theorem dX7_goThrough_51 : decode cX7_goThrough 51 = .ok (.putfield 52, 3) := by decide +kernel
theorem dX7_goThrough_54 : decode cX7_goThrough 54 = .ok (.aload_n 0, 1) := by decide +kernel
theorem dX7_goThrough_55 : decode cX7_goThrough 55 = .ok (.iconst 0, 1) := by decide +kernel
theorem dX7_goThrough_56 : decode cX7_goThrough 56 = .ok (.putfield 55, 3) := by decide +kernel
theorem dX7_goThrough_59 : decode cX7_goThrough 59 = .ok (.aload_n 0, 1) := by decide +kernel
theorem dX7_goThrough_60 : decode cX7_goThrough 60 = .ok (.iconst 0, 1) := by decide +kernel
theorem dX7_goThrough_61 : decode cX7_goThrough 61 = .ok (.putfield 59, 3) := by decide +kernel
theorem dX7_goThrough_64 : decode cX7_goThrough 64 = .ok (.aload_n 0, 1) := by decide +kernel
theorem dX7_goThrough_65 : decode cX7_goThrough 65 = .ok (.bipush (-6), 2) := by decide +kernel
theorem dX7_goThrough_67 : decode cX7_goThrough 67 = .ok (.putfield 62, 3) := by decide +kernel
theorem dX7_goThrough_70 : decode cX7_goThrough 70 = .ok (.aload_n 0, 1) := by decide +kernel
theorem dX7_goThrough_71 : decode cX7_goThrough 71 = .ok (.aload_n 1, 1) := by decide +kernel
theorem dX7_goThrough_72 : decode cX7_goThrough 72 = .ok (.lload_n 2, 1) := by decide +kernel
theorem dX7_goThrough_73 : decode cX7_goThrough 73 = .ok (.aload_n 0, 1) := by decide +kernel
theorem dX7_goThrough_74 : decode cX7_goThrough 74 = .ok (.lload_n 2, 1) := by decide +kernel
theorem dX7_goThrough_75 : decode cX7_goThrough 75 = .ok (.invokevirtual 71, 3) := by decide +kernel
theorem dX7_goThrough_78 : decode cX7_goThrough 78 = .ok (.invokevirtual 75, 3) := by decide +kernel
theorem dX7_goThrough_81 : decode cX7_goThrough 81 = .ok (.iconst 0, 1) := by decide +kernel
theorem dX7_goThrough_82 : decode cX7_goThrough 82 = .ok (.istore 4, 2) := by decide +kernel
theorem dX7_goThrough_84 : decode cX7_goThrough 84 = .ok (.iload 4, 2) := by decide +kernel
theorem dX7_goThrough_86 : decode cX7_goThrough 86 = .ok (.ldc 79, 2) := by decide +kernel
theorem dX7_goThrough_88 : decode cX7_goThrough 88 = .ok (.if_icmp .ge 28, 3) := by decide +kernel
theorem dX7_goThrough_91 : decode cX7_goThrough 91 = .ok (.aload_n 0, 1) := by decide +kernel
theorem dX7_goThrough_92 : decode cX7_goThrough 92 = .ok (.getfield 42, 3) := by decide +kernel
theorem dX7_goThrough_95 : decode cX7_goThrough 95 = .ok (.ifCond .le 21, 3) := by decide +kernel
theorem dX7_goThrough_98 : decode cX7_goThrough 98 = .ok (.aload_n 0, 1) := by decide +kernel
theorem dX7_goThrough_99 : decode cX7_goThrough 99 = .ok (.getfield 55, 3) := by decide +kernel
theorem dX7_goThrough_102 : decode cX7_goThrough 102 = .ok (.ifCond .ne 14, 3) := by decide +kernel
theorem dX7_goThrough_105 : decode cX7_goThrough 105 = .ok (.aload_n 0, 1) := by decide +kernel
theorem dX7_goThrough_106 : decode cX7_goThrough 106 = .ok (.aload_n 1, 1) := by decide +kernel
theorem dX7_goThrough_107 : decode cX7_goThrough 107 = .ok (.invokevirtual 80, 3) := by decide +kernel
theorem dX7_goThrough_110 : decode cX7_goThrough 110 = .ok (.iinc 4 1, 3) := by decide +kernel
theorem dX7_goThrough_113 : decode cX7_goThrough 113 = .ok (.goto (-29), 3) := by decide +kernel
theorem dX7_goThrough_116 : decode cX7_goThrough 116 = .ok (.return_, 1) := by decide +kernel
theorem dX7_slotOf_0 : decode cX7_slotOf 0 = .ok (.lload_n 1, 1) := by decide +kernel
theorem dX7_slotOf_1 : decode cX7_slotOf 1 = .ok (.lload_n 1, 1) := by decide +kernel
theorem dX7_slotOf_2 : decode cX7_slotOf 2 = .ok (.bipush 29, 2) := by decide +kernel
theorem dX7_slotOf_4 : decode cX7_slotOf 4 = .ok (.lushr, 1) := by decide +kernel
theorem dX7_slotOf_5 : decode cX7_slotOf 5 = .ok (.lxor, 1) := by decide +kernel
theorem dX7_slotOf_6 : decode cX7_slotOf 6 = .ok (.ldc2_w 84, 3) := by decide +kernel
theorem dX7_slotOf_9 : decode cX7_slotOf 9 = .ok (.lmul, 1) := by decide +kernel
theorem dX7_slotOf_10 : decode cX7_slotOf 10 = .ok (.bipush 49, 2) := by decide +kernel
theorem dX7_slotOf_12 : decode cX7_slotOf 12 = .ok (.lushr, 1) := by decide +kernel
theorem dX7_slotOf_13 : decode cX7_slotOf 13 = .ok (.l2i, 1) := by decide +kernel
theorem dX7_slotOf_14 : decode cX7_slotOf 14 = .ok (.istore_n 3, 1) := by decide +kernel
theorem dX7_slotOf_15 : decode cX7_slotOf 15 = .ok (.iconst 0, 1) := by decide +kernel
theorem dX7_slotOf_16 : decode cX7_slotOf 16 = .ok (.istore 4, 2) := by decide +kernel
theorem dX7_slotOf_18 : decode cX7_slotOf 18 = .ok (.iload 4, 2) := by decide +kernel
theorem dX7_slotOf_20 : decode cX7_slotOf 20 = .ok (.ldc 11, 2) := by decide +kernel
theorem dX7_slotOf_22 : decode cX7_slotOf 22 = .ok (.if_icmp .ge 43, 3) := by decide +kernel
theorem dX7_slotOf_25 : decode cX7_slotOf 25 = .ok (.iload_n 3, 1) := by decide +kernel
theorem dX7_slotOf_26 : decode cX7_slotOf 26 = .ok (.iload 4, 2) := by decide +kernel
theorem dX7_slotOf_28 : decode cX7_slotOf 28 = .ok (.iadd, 1) := by decide +kernel
theorem dX7_slotOf_29 : decode cX7_slotOf 29 = .ok (.sipush 32767, 3) := by decide +kernel
theorem dX7_slotOf_32 : decode cX7_slotOf 32 = .ok (.iand, 1) := by decide +kernel
theorem dX7_slotOf_33 : decode cX7_slotOf 33 = .ok (.istore 5, 2) := by decide +kernel
theorem dX7_slotOf_35 : decode cX7_slotOf 35 = .ok (.aload_n 0, 1) := by decide +kernel
theorem dX7_slotOf_36 : decode cX7_slotOf 36 = .ok (.iload 5, 2) := by decide +kernel
theorem dX7_slotOf_38 : decode cX7_slotOf 38 = .ok (.invokevirtual 86, 3) := by decide +kernel
theorem dX7_slotOf_41 : decode cX7_slotOf 41 = .ok (.ifCond .eq 15, 3) := by decide +kernel
theorem dX7_slotOf_44 : decode cX7_slotOf 44 = .ok (.aload_n 0, 1) := by decide +kernel
theorem dX7_slotOf_45 : decode cX7_slotOf 45 = .ok (.getfield 12, 3) := by decide +kernel
theorem dX7_slotOf_48 : decode cX7_slotOf 48 = .ok (.iload 5, 2) := by decide +kernel
theorem dX7_slotOf_50 : decode cX7_slotOf 50 = .ok (.laload, 1) := by decide +kernel
theorem dX7_slotOf_51 : decode cX7_slotOf 51 = .ok (.lload_n 1, 1) := by decide +kernel
theorem dX7_slotOf_52 : decode cX7_slotOf 52 = .ok (.lcmp, 1) := by decide +kernel
theorem dX7_slotOf_53 : decode cX7_slotOf 53 = .ok (.ifCond .ne 6, 3) := by decide +kernel
theorem dX7_slotOf_56 : decode cX7_slotOf 56 = .ok (.iload 5, 2) := by decide +kernel
theorem dX7_slotOf_58 : decode cX7_slotOf 58 = .ok (.ireturn, 1) := by decide +kernel
theorem dX7_slotOf_59 : decode cX7_slotOf 59 = .ok (.iinc 4 1, 3) := by decide +kernel
theorem dX7_slotOf_62 : decode cX7_slotOf 62 = .ok (.goto (-44), 3) := by decide +kernel
theorem dX7_slotOf_65 : decode cX7_slotOf 65 = .ok (.iconst (-1), 1) := by decide +kernel
theorem dX7_slotOf_66 : decode cX7_slotOf 66 = .ok (.ireturn, 1) := by decide +kernel
theorem dX7_isFilled_0 : decode cX7_isFilled 0 = .ok (.aload_n 0, 1) := by decide +kernel
theorem dX7_isFilled_1 : decode cX7_isFilled 1 = .ok (.getfield 16, 3) := by decide +kernel
theorem dX7_isFilled_4 : decode cX7_isFilled 4 = .ok (.iload_n 1, 1) := by decide +kernel
theorem dX7_isFilled_5 : decode cX7_isFilled 5 = .ok (.iaload, 1) := by decide +kernel
theorem dX7_isFilled_6 : decode cX7_isFilled 6 = .ok (.bipush 10, 2) := by decide +kernel
theorem dX7_isFilled_8 : decode cX7_isFilled 8 = .ok (.iushr, 1) := by decide +kernel
theorem dX7_isFilled_9 : decode cX7_isFilled 9 = .ok (.aload_n 0, 1) := by decide +kernel
theorem dX7_isFilled_10 : decode cX7_isFilled 10 = .ok (.getfield 20, 3) := by decide +kernel
theorem dX7_isFilled_13 : decode cX7_isFilled 13 = .ok (.if_icmp .ne 7, 3) := by decide +kernel
theorem dX7_isFilled_16 : decode cX7_isFilled 16 = .ok (.iconst 1, 1) := by decide +kernel
theorem dX7_isFilled_17 : decode cX7_isFilled 17 = .ok (.goto 4, 3) := by decide +kernel
theorem dX7_isFilled_20 : decode cX7_isFilled 20 = .ok (.iconst 0, 1) := by decide +kernel
theorem dX7_isFilled_21 : decode cX7_isFilled 21 = .ok (.ireturn, 1) := by decide +kernel
theorem dX7_open_0 : decode cX7_open 0 = .ok (.aload_n 0, 1) := by decide +kernel
theorem dX7_open_1 : decode cX7_open 1 = .ok (.getfield 52, 3) := by decide +kernel
theorem dX7_open_4 : decode cX7_open 4 = .ok (.sipush 20000, 3) := by decide +kernel
theorem dX7_open_7 : decode cX7_open 7 = .ok (.if_icmp .ge 31, 3) := by decide +kernel
theorem dX7_open_10 : decode cX7_open 10 = .ok (.iload 4, 2) := by decide +kernel
theorem dX7_open_12 : decode cX7_open 12 = .ok (.ifCond .lt 26, 3) := by decide +kernel
theorem dX7_open_15 : decode cX7_open 15 = .ok (.iload 4, 2) := by decide +kernel
theorem dX7_open_17 : decode cX7_open 17 = .ok (.ldc 11, 2) := by decide +kernel
theorem dX7_open_19 : decode cX7_open 19 = .ok (.if_icmp .ge 19, 3) := by decide +kernel
theorem dX7_open_22 : decode cX7_open 22 = .ok (.aload_n 0, 1) := by decide +kernel
theorem dX7_open_23 : decode cX7_open 23 = .ok (.getfield 42, 3) := by decide +kernel
theorem dX7_open_26 : decode cX7_open 26 = .ok (.ifCond .lt 12, 3) := by decide +kernel
theorem dX7_open_29 : decode cX7_open 29 = .ok (.aload_n 0, 1) := by decide +kernel
theorem dX7_open_30 : decode cX7_open 30 = .ok (.getfield 42, 3) := by decide +kernel
theorem dX7_open_33 : decode cX7_open 33 = .ok (.bipush 64, 2) := by decide +kernel
theorem dX7_open_35 : decode cX7_open 35 = .ok (.if_icmp .lt 9, 3) := by decide +kernel
theorem dX7_open_38 : decode cX7_open 38 = .ok (.aload_n 0, 1) := by decide +kernel
theorem dX7_open_39 : decode cX7_open 39 = .ok (.iconst 1, 1) := by decide +kernel
theorem dX7_open_40 : decode cX7_open 40 = .ok (.putfield 55, 3) := by decide +kernel
theorem dX7_open_43 : decode cX7_open 43 = .ok (.return_, 1) := by decide +kernel
theorem dX7_open_44 : decode cX7_open 44 = .ok (.aload_n 0, 1) := by decide +kernel
theorem dX7_open_45 : decode cX7_open 45 = .ok (.dup, 1) := by decide +kernel
theorem dX7_open_46 : decode cX7_open 46 = .ok (.getfield 52, 3) := by decide +kernel
theorem dX7_open_49 : decode cX7_open 49 = .ok (.iconst 1, 1) := by decide +kernel
theorem dX7_open_50 : decode cX7_open 50 = .ok (.iadd, 1) := by decide +kernel
theorem dX7_open_51 : decode cX7_open 51 = .ok (.putfield 52, 3) := by decide +kernel
theorem dX7_open_54 : decode cX7_open 54 = .ok (.aload_n 0, 1) := by decide +kernel
theorem dX7_open_55 : decode cX7_open 55 = .ok (.getfield 12, 3) := by decide +kernel
theorem dX7_open_58 : decode cX7_open 58 = .ok (.iload 4, 2) := by decide +kernel
theorem dX7_open_60 : decode cX7_open 60 = .ok (.lload_n 2, 1) := by decide +kernel
theorem dX7_open_61 : decode cX7_open 61 = .ok (.lastore, 1) := by decide +kernel
theorem dX7_open_62 : decode cX7_open 62 = .ok (.aload_n 0, 1) := by decide +kernel
theorem dX7_open_63 : decode cX7_open 63 = .ok (.getfield 16, 3) := by decide +kernel
theorem dX7_open_66 : decode cX7_open 66 = .ok (.iload 4, 2) := by decide +kernel
theorem dX7_open_68 : decode cX7_open 68 = .ok (.aload_n 0, 1) := by decide +kernel
theorem dX7_open_69 : decode cX7_open 69 = .ok (.getfield 20, 3) := by decide +kernel
theorem dX7_open_72 : decode cX7_open 72 = .ok (.bipush 10, 2) := by decide +kernel
theorem dX7_open_74 : decode cX7_open 74 = .ok (.ishl, 1) := by decide +kernel
theorem dX7_open_75 : decode cX7_open 75 = .ok (.iastore, 1) := by decide +kernel
theorem dX7_open_76 : decode cX7_open 76 = .ok (.aload_n 0, 1) := by decide +kernel
theorem dX7_open_77 : decode cX7_open 77 = .ok (.getfield 24, 3) := by decide +kernel
theorem dX7_open_80 : decode cX7_open 80 = .ok (.aload_n 0, 1) := by decide +kernel
theorem dX7_open_81 : decode cX7_open 81 = .ok (.getfield 42, 3) := by decide +kernel
theorem dX7_open_84 : decode cX7_open 84 = .ok (.lload_n 2, 1) := by decide +kernel
theorem dX7_open_85 : decode cX7_open 85 = .ok (.lastore, 1) := by decide +kernel
theorem dX7_open_86 : decode cX7_open 86 = .ok (.aload_n 0, 1) := by decide +kernel
theorem dX7_open_87 : decode cX7_open 87 = .ok (.getfield 27, 3) := by decide +kernel
theorem dX7_open_90 : decode cX7_open 90 = .ok (.aload_n 0, 1) := by decide +kernel
theorem dX7_open_91 : decode cX7_open 91 = .ok (.getfield 42, 3) := by decide +kernel
theorem dX7_open_94 : decode cX7_open 94 = .ok (.iload 4, 2) := by decide +kernel
theorem dX7_open_96 : decode cX7_open 96 = .ok (.iastore, 1) := by decide +kernel
theorem dX7_open_97 : decode cX7_open 97 = .ok (.aload_n 0, 1) := by decide +kernel
theorem dX7_open_98 : decode cX7_open 98 = .ok (.getfield 33, 3) := by decide +kernel
theorem dX7_open_101 : decode cX7_open 101 = .ok (.aload_n 0, 1) := by decide +kernel
theorem dX7_open_102 : decode cX7_open 102 = .ok (.getfield 42, 3) := by decide +kernel
theorem dX7_open_105 : decode cX7_open 105 = .ok (.iconst 0, 1) := by decide +kernel
theorem dX7_open_106 : decode cX7_open 106 = .ok (.iastore, 1) := by decide +kernel
theorem dX7_open_107 : decode cX7_open 107 = .ok (.aload_n 0, 1) := by decide +kernel
theorem dX7_open_108 : decode cX7_open 108 = .ok (.getfield 30, 3) := by decide +kernel
theorem dX7_open_111 : decode cX7_open 111 = .ok (.aload_n 0, 1) := by decide +kernel
theorem dX7_open_112 : decode cX7_open 112 = .ok (.getfield 42, 3) := by decide +kernel
theorem dX7_open_115 : decode cX7_open 115 = .ok (.aload_n 1, 1) := by decide +kernel
theorem dX7_open_116 : decode cX7_open 116 = .ok (.lload_n 2, 1) := by decide +kernel
theorem dX7_open_117 : decode cX7_open 117 = .ok (.aload_n 0, 1) := by decide +kernel
theorem dX7_open_118 : decode cX7_open 118 = .ok (.getfield 39, 3) := by decide +kernel
theorem dX7_open_121 : decode cX7_open 121 = .ok (.aload_n 0, 1) := by decide +kernel
theorem dX7_open_122 : decode cX7_open 122 = .ok (.getfield 42, 3) := by decide +kernel
theorem dX7_open_125 : decode cX7_open 125 = .ok (.bipush 24, 2) := by decide +kernel
theorem dX7_open_127 : decode cX7_open 127 = .ok (.imul, 1) := by decide +kernel
theorem dX7_open_128 : decode cX7_open 128 = .ok (.invokevirtual 90, 3) := by decide +kernel
theorem dX7_open_131 : decode cX7_open 131 = .ok (.iastore, 1) := by decide +kernel
theorem dX7_open_132 : decode cX7_open 132 = .ok (.aload_n 0, 1) := by decide +kernel
theorem dX7_open_133 : decode cX7_open 133 = .ok (.getfield 36, 3) := by decide +kernel
theorem dX7_open_136 : decode cX7_open 136 = .ok (.aload_n 0, 1) := by decide +kernel
theorem dX7_open_137 : decode cX7_open 137 = .ok (.getfield 42, 3) := by decide +kernel
theorem dX7_open_140 : decode cX7_open 140 = .ok (.aload_n 0, 1) := by decide +kernel
theorem dX7_open_141 : decode cX7_open 141 = .ok (.getfield 30, 3) := by decide +kernel
theorem dX7_open_144 : decode cX7_open 144 = .ok (.aload_n 0, 1) := by decide +kernel
theorem dX7_open_145 : decode cX7_open 145 = .ok (.getfield 42, 3) := by decide +kernel
theorem dX7_open_148 : decode cX7_open 148 = .ok (.iaload, 1) := by decide +kernel
theorem dX7_open_149 : decode cX7_open 149 = .ok (.ifCond .le 7, 3) := by decide +kernel
theorem dX7_open_152 : decode cX7_open 152 = .ok (.iconst 0, 1) := by decide +kernel
theorem dX7_open_153 : decode cX7_open 153 = .ok (.goto 15, 3) := by decide +kernel
theorem dX7_open_156 : decode cX7_open 156 = .ok (.aload_n 1, 1) := by decide +kernel
theorem dX7_open_157 : decode cX7_open 157 = .ok (.lload_n 2, 1) := by decide +kernel
theorem dX7_open_158 : decode cX7_open 158 = .ok (.invokevirtual 94, 3) := by decide +kernel
theorem dX7_open_161 : decode cX7_open 161 = .ok (.lload_n 2, 1) := by decide +kernel
theorem dX7_open_162 : decode cX7_open 162 = .ok (.invokestatic 97, 3) := by decide +kernel
theorem dX7_open_165 : decode cX7_open 165 = .ok (.invokestatic 102, 3) := by decide +kernel
theorem dX7_open_168 : decode cX7_open 168 = .ok (.iastore, 1) := by decide +kernel
theorem dX7_open_169 : decode cX7_open 169 = .ok (.aload_n 0, 1) := by decide +kernel
theorem dX7_open_170 : decode cX7_open 170 = .ok (.dup, 1) := by decide +kernel
theorem dX7_open_171 : decode cX7_open 171 = .ok (.getfield 42, 3) := by decide +kernel
theorem dX7_open_174 : decode cX7_open 174 = .ok (.iconst 1, 1) := by decide +kernel
theorem dX7_open_175 : decode cX7_open 175 = .ok (.iadd, 1) := by decide +kernel
theorem dX7_open_176 : decode cX7_open 176 = .ok (.putfield 42, 3) := by decide +kernel
theorem dX7_open_179 : decode cX7_open 179 = .ok (.return_, 1) := by decide +kernel
theorem dX7_goOn_0 : decode cX7_goOn 0 = .ok (.aload_n 0, 1) := by decide +kernel
theorem dX7_goOn_1 : decode cX7_goOn 1 = .ok (.getfield 42, 3) := by decide +kernel
theorem dX7_goOn_4 : decode cX7_goOn 4 = .ok (.iconst 1, 1) := by decide +kernel
theorem dX7_goOn_5 : decode cX7_goOn 5 = .ok (.isub, 1) := by decide +kernel
theorem dX7_goOn_6 : decode cX7_goOn 6 = .ok (.istore_n 2, 1) := by decide +kernel
theorem dX7_goOn_7 : decode cX7_goOn 7 = .ok (.iload_n 2, 1) := by decide +kernel
theorem dX7_goOn_8 : decode cX7_goOn 8 = .ok (.ifCond .lt 9, 3) := by decide +kernel
theorem dX7_goOn_11 : decode cX7_goOn 11 = .ok (.iload_n 2, 1) := by decide +kernel
theorem dX7_goOn_12 : decode cX7_goOn 12 = .ok (.bipush 64, 2) := by decide +kernel
theorem dX7_goOn_14 : decode cX7_goOn 14 = .ok (.if_icmp .lt 9, 3) := by decide +kernel
theorem dX7_goOn_17 : decode cX7_goOn 17 = .ok (.aload_n 0, 1) := by decide +kernel
theorem dX7_goOn_18 : decode cX7_goOn 18 = .ok (.iconst 1, 1) := by decide +kernel
theorem dX7_goOn_19 : decode cX7_goOn 19 = .ok (.putfield 55, 3) := by decide +kernel
theorem dX7_goOn_22 : decode cX7_goOn 22 = .ok (.return_, 1) := by decide +kernel
theorem dX7_goOn_23 : decode cX7_goOn 23 = .ok (.iload_n 2, 1) := by decide +kernel
theorem dX7_goOn_24 : decode cX7_goOn 24 = .ok (.bipush 24, 2) := by decide +kernel
theorem dX7_goOn_26 : decode cX7_goOn 26 = .ok (.imul, 1) := by decide +kernel
theorem dX7_goOn_27 : decode cX7_goOn 27 = .ok (.aload_n 0, 1) := by decide +kernel
theorem dX7_goOn_28 : decode cX7_goOn 28 = .ok (.getfield 33, 3) := by decide +kernel
theorem dX7_goOn_31 : decode cX7_goOn 31 = .ok (.iload_n 2, 1) := by decide +kernel
theorem dX7_goOn_32 : decode cX7_goOn 32 = .ok (.iaload, 1) := by decide +kernel
theorem dX7_goOn_33 : decode cX7_goOn 33 = .ok (.iadd, 1) := by decide +kernel
theorem dX7_goOn_34 : decode cX7_goOn 34 = .ok (.istore_n 3, 1) := by decide +kernel
theorem dX7_goOn_35 : decode cX7_goOn 35 = .ok (.aload_n 0, 1) := by decide +kernel
theorem dX7_goOn_36 : decode cX7_goOn 36 = .ok (.getfield 33, 3) := by decide +kernel
theorem dX7_goOn_39 : decode cX7_goOn 39 = .ok (.iload_n 2, 1) := by decide +kernel
theorem dX7_goOn_40 : decode cX7_goOn 40 = .ok (.iaload, 1) := by decide +kernel
theorem dX7_goOn_41 : decode cX7_goOn 41 = .ok (.aload_n 0, 1) := by decide +kernel
theorem dX7_goOn_42 : decode cX7_goOn 42 = .ok (.getfield 30, 3) := by decide +kernel
theorem dX7_goOn_45 : decode cX7_goOn 45 = .ok (.iload_n 2, 1) := by decide +kernel
theorem dX7_goOn_46 : decode cX7_goOn 46 = .ok (.iaload, 1) := by decide +kernel
theorem dX7_goOn_47 : decode cX7_goOn 47 = .ok (.if_icmp .ge 16, 3) := by decide +kernel
theorem dX7_goOn_50 : decode cX7_goOn 50 = .ok (.iload_n 3, 1) := by decide +kernel
theorem dX7_goOn_51 : decode cX7_goOn 51 = .ok (.ifCond .lt 12, 3) := by decide +kernel
theorem dX7_goOn_54 : decode cX7_goOn 54 = .ok (.iload_n 3, 1) := by decide +kernel
theorem dX7_goOn_55 : decode cX7_goOn 55 = .ok (.aload_n 0, 1) := by decide +kernel
theorem dX7_goOn_56 : decode cX7_goOn 56 = .ok (.getfield 39, 3) := by decide +kernel
theorem dX7_goOn_59 : decode cX7_goOn 59 = .ok (.arraylength, 1) := by decide +kernel
theorem dX7_goOn_60 : decode cX7_goOn 60 = .ok (.if_icmp .lt 9, 3) := by decide +kernel
theorem dX7_goOn_63 : decode cX7_goOn 63 = .ok (.aload_n 0, 1) := by decide +kernel
theorem dX7_goOn_64 : decode cX7_goOn 64 = .ok (.iload_n 2, 1) := by decide +kernel
theorem dX7_goOn_65 : decode cX7_goOn 65 = .ok (.invokevirtual 108, 3) := by decide +kernel
theorem dX7_goOn_68 : decode cX7_goOn 68 = .ok (.return_, 1) := by decide +kernel
theorem dX7_goOn_69 : decode cX7_goOn 69 = .ok (.aload_n 0, 1) := by decide +kernel
theorem dX7_goOn_70 : decode cX7_goOn 70 = .ok (.getfield 24, 3) := by decide +kernel
theorem dX7_goOn_73 : decode cX7_goOn 73 = .ok (.iload_n 2, 1) := by decide +kernel
theorem dX7_goOn_74 : decode cX7_goOn 74 = .ok (.laload, 1) := by decide +kernel
theorem dX7_goOn_75 : decode cX7_goOn 75 = .ok (.aload_n 0, 1) := by decide +kernel
theorem dX7_goOn_76 : decode cX7_goOn 76 = .ok (.getfield 39, 3) := by decide +kernel
theorem dX7_goOn_79 : decode cX7_goOn 79 = .ok (.iload_n 3, 1) := by decide +kernel
theorem dX7_goOn_80 : decode cX7_goOn 80 = .ok (.iaload, 1) := by decide +kernel
theorem dX7_goOn_81 : decode cX7_goOn 81 = .ok (.invokestatic 112, 3) := by decide +kernel
theorem dX7_goOn_84 : decode cX7_goOn 84 = .ok (.lstore 4, 2) := by decide +kernel
theorem dX7_goOn_86 : decode cX7_goOn 86 = .ok (.aload_n 0, 1) := by decide +kernel
theorem dX7_goOn_87 : decode cX7_goOn 87 = .ok (.lload 4, 2) := by decide +kernel
theorem dX7_goOn_89 : decode cX7_goOn 89 = .ok (.invokevirtual 71, 3) := by decide +kernel
theorem dX7_goOn_92 : decode cX7_goOn 92 = .ok (.istore 6, 2) := by decide +kernel
theorem dX7_goOn_94 : decode cX7_goOn 94 = .ok (.iload 6, 2) := by decide +kernel
theorem dX7_goOn_96 : decode cX7_goOn 96 = .ok (.ifCond .lt 38, 3) := by decide +kernel
theorem dX7_goOn_99 : decode cX7_goOn 99 = .ok (.iload 6, 2) := by decide +kernel
theorem dX7_goOn_101 : decode cX7_goOn 101 = .ok (.ldc 11, 2) := by decide +kernel
theorem dX7_goOn_103 : decode cX7_goOn 103 = .ok (.if_icmp .ge 31, 3) := by decide +kernel
theorem dX7_goOn_106 : decode cX7_goOn 106 = .ok (.aload_n 0, 1) := by decide +kernel
theorem dX7_goOn_107 : decode cX7_goOn 107 = .ok (.iload 6, 2) := by decide +kernel
theorem dX7_goOn_109 : decode cX7_goOn 109 = .ok (.invokevirtual 86, 3) := by decide +kernel
theorem dX7_goOn_112 : decode cX7_goOn 112 = .ok (.ifCond .eq 22, 3) := by decide +kernel
theorem dX7_goOn_115 : decode cX7_goOn 115 = .ok (.aload_n 0, 1) := by decide +kernel
theorem dX7_goOn_116 : decode cX7_goOn 116 = .ok (.iload_n 2, 1) := by decide +kernel
theorem dX7_goOn_117 : decode cX7_goOn 117 = .ok (.aload_n 0, 1) := by decide +kernel
theorem dX7_goOn_118 : decode cX7_goOn 118 = .ok (.getfield 16, 3) := by decide +kernel
theorem dX7_goOn_121 : decode cX7_goOn 121 = .ok (.iload 6, 2) := by decide +kernel
theorem dX7_goOn_123 : decode cX7_goOn 123 = .ok (.iaload, 1) := by decide +kernel
theorem dX7_goOn_124 : decode cX7_goOn 124 = .ok (.sipush 1023, 3) := by decide +kernel
theorem dX7_goOn_127 : decode cX7_goOn 127 = .ok (.iand, 1) := by decide +kernel
theorem dX7_goOn_128 : decode cX7_goOn 128 = .ok (.invokevirtual 116, 3) := by decide +kernel
theorem dX7_goOn_131 : decode cX7_goOn 131 = .ok (.goto 12, 3) := by decide +kernel
theorem dX7_goOn_134 : decode cX7_goOn 134 = .ok (.aload_n 0, 1) := by decide +kernel
theorem dX7_goOn_135 : decode cX7_goOn 135 = .ok (.aload_n 1, 1) := by decide +kernel
theorem dX7_goOn_136 : decode cX7_goOn 136 = .ok (.lload 4, 2) := by decide +kernel
theorem dX7_goOn_138 : decode cX7_goOn 138 = .ok (.iload 6, 2) := by decide +kernel
theorem dX7_goOn_140 : decode cX7_goOn 140 = .ok (.invokevirtual 75, 3) := by decide +kernel
theorem dX7_goOn_143 : decode cX7_goOn 143 = .ok (.return_, 1) := by decide +kernel
theorem dX7_close_0 : decode cX7_close 0 = .ok (.aload_n 0, 1) := by decide +kernel
theorem dX7_close_1 : decode cX7_close 1 = .ok (.getfield 27, 3) := by decide +kernel
theorem dX7_close_4 : decode cX7_close 4 = .ok (.iload_n 1, 1) := by decide +kernel
theorem dX7_close_5 : decode cX7_close 5 = .ok (.iaload, 1) := by decide +kernel
theorem dX7_close_6 : decode cX7_close 6 = .ok (.istore_n 2, 1) := by decide +kernel
theorem dX7_close_7 : decode cX7_close 7 = .ok (.iload_n 2, 1) := by decide +kernel
theorem dX7_close_8 : decode cX7_close 8 = .ok (.ifCond .lt 29, 3) := by decide +kernel
theorem dX7_close_11 : decode cX7_close 11 = .ok (.iload_n 2, 1) := by decide +kernel
theorem dX7_close_12 : decode cX7_close 12 = .ok (.ldc 11, 2) := by decide +kernel
theorem dX7_close_14 : decode cX7_close 14 = .ok (.if_icmp .ge 23, 3) := by decide +kernel
theorem dX7_close_17 : decode cX7_close 17 = .ok (.aload_n 0, 1) := by decide +kernel
theorem dX7_close_18 : decode cX7_close 18 = .ok (.getfield 16, 3) := by decide +kernel
theorem dX7_close_21 : decode cX7_close 21 = .ok (.iload_n 2, 1) := by decide +kernel
theorem dX7_close_22 : decode cX7_close 22 = .ok (.aload_n 0, 1) := by decide +kernel
theorem dX7_close_23 : decode cX7_close 23 = .ok (.getfield 20, 3) := by decide +kernel
theorem dX7_close_26 : decode cX7_close 26 = .ok (.bipush 10, 2) := by decide +kernel
theorem dX7_close_28 : decode cX7_close 28 = .ok (.ishl, 1) := by decide +kernel
theorem dX7_close_29 : decode cX7_close 29 = .ok (.aload_n 0, 1) := by decide +kernel
theorem dX7_close_30 : decode cX7_close 30 = .ok (.getfield 36, 3) := by decide +kernel
theorem dX7_close_33 : decode cX7_close 33 = .ok (.iload_n 1, 1) := by decide +kernel
theorem dX7_close_34 : decode cX7_close 34 = .ok (.iaload, 1) := by decide +kernel
theorem dX7_close_35 : decode cX7_close 35 = .ok (.ior, 1) := by decide +kernel
theorem dX7_close_36 : decode cX7_close 36 = .ok (.iastore, 1) := by decide +kernel
theorem dX7_close_37 : decode cX7_close 37 = .ok (.aload_n 0, 1) := by decide +kernel
theorem dX7_close_38 : decode cX7_close 38 = .ok (.iload_n 1, 1) := by decide +kernel
theorem dX7_close_39 : decode cX7_close 39 = .ok (.putfield 42, 3) := by decide +kernel
theorem dX7_close_42 : decode cX7_close 42 = .ok (.iload_n 1, 1) := by decide +kernel
theorem dX7_close_43 : decode cX7_close 43 = .ok (.ifCond .le 19, 3) := by decide +kernel
theorem dX7_close_46 : decode cX7_close 46 = .ok (.aload_n 0, 1) := by decide +kernel
theorem dX7_close_47 : decode cX7_close 47 = .ok (.iload_n 1, 1) := by decide +kernel
theorem dX7_close_48 : decode cX7_close 48 = .ok (.iconst 1, 1) := by decide +kernel
theorem dX7_close_49 : decode cX7_close 49 = .ok (.isub, 1) := by decide +kernel
theorem dX7_close_50 : decode cX7_close 50 = .ok (.aload_n 0, 1) := by decide +kernel
theorem dX7_close_51 : decode cX7_close 51 = .ok (.getfield 36, 3) := by decide +kernel
theorem dX7_close_54 : decode cX7_close 54 = .ok (.iload_n 1, 1) := by decide +kernel
theorem dX7_close_55 : decode cX7_close 55 = .ok (.iaload, 1) := by decide +kernel
theorem dX7_close_56 : decode cX7_close 56 = .ok (.invokevirtual 116, 3) := by decide +kernel
theorem dX7_close_59 : decode cX7_close 59 = .ok (.goto 13, 3) := by decide +kernel
theorem dX7_close_62 : decode cX7_close 62 = .ok (.aload_n 0, 1) := by decide +kernel
theorem dX7_close_63 : decode cX7_close 63 = .ok (.aload_n 0, 1) := by decide +kernel
theorem dX7_close_64 : decode cX7_close 64 = .ok (.getfield 36, 3) := by decide +kernel
theorem dX7_close_67 : decode cX7_close 67 = .ok (.iload_n 1, 1) := by decide +kernel
theorem dX7_close_68 : decode cX7_close 68 = .ok (.iaload, 1) := by decide +kernel
theorem dX7_close_69 : decode cX7_close 69 = .ok (.putfield 59, 3) := by decide +kernel
theorem dX7_close_72 : decode cX7_close 72 = .ok (.return_, 1) := by decide +kernel
theorem dX7_weigh_0 : decode cX7_weigh 0 = .ok (.iload_n 2, 1) := by decide +kernel
theorem dX7_weigh_1 : decode cX7_weigh 1 = .ok (.invokestatic 120, 3) := by decide +kernel
theorem dX7_weigh_4 : decode cX7_weigh 4 = .ok (.istore_n 3, 1) := by decide +kernel
theorem dX7_weigh_5 : decode cX7_weigh 5 = .ok (.iload_n 3, 1) := by decide +kernel
theorem dX7_weigh_6 : decode cX7_weigh 6 = .ok (.aload_n 0, 1) := by decide +kernel
theorem dX7_weigh_7 : decode cX7_weigh 7 = .ok (.getfield 36, 3) := by decide +kernel
theorem dX7_weigh_10 : decode cX7_weigh 10 = .ok (.iload_n 1, 1) := by decide +kernel
theorem dX7_weigh_11 : decode cX7_weigh 11 = .ok (.iaload, 1) := by decide +kernel
theorem dX7_weigh_12 : decode cX7_weigh 12 = .ok (.if_icmp .le 43, 3) := by decide +kernel
theorem dX7_weigh_15 : decode cX7_weigh 15 = .ok (.aload_n 0, 1) := by decide +kernel
theorem dX7_weigh_16 : decode cX7_weigh 16 = .ok (.getfield 36, 3) := by decide +kernel
theorem dX7_weigh_19 : decode cX7_weigh 19 = .ok (.iload_n 1, 1) := by decide +kernel
theorem dX7_weigh_20 : decode cX7_weigh 20 = .ok (.iload_n 3, 1) := by decide +kernel
theorem dX7_weigh_21 : decode cX7_weigh 21 = .ok (.iastore, 1) := by decide +kernel
theorem dX7_weigh_22 : decode cX7_weigh 22 = .ok (.iload_n 1, 1) := by decide +kernel
theorem dX7_weigh_23 : decode cX7_weigh 23 = .ok (.ifCond .ne 32, 3) := by decide +kernel
theorem dX7_weigh_26 : decode cX7_weigh 26 = .ok (.aload_n 0, 1) := by decide +kernel
theorem dX7_weigh_27 : decode cX7_weigh 27 = .ok (.getfield 33, 3) := by decide +kernel
theorem dX7_weigh_30 : decode cX7_weigh 30 = .ok (.iconst 0, 1) := by decide +kernel
theorem dX7_weigh_31 : decode cX7_weigh 31 = .ok (.iaload, 1) := by decide +kernel
theorem dX7_weigh_32 : decode cX7_weigh 32 = .ok (.aload_n 0, 1) := by decide +kernel
theorem dX7_weigh_33 : decode cX7_weigh 33 = .ok (.getfield 39, 3) := by decide +kernel
theorem dX7_weigh_36 : decode cX7_weigh 36 = .ok (.arraylength, 1) := by decide +kernel
theorem dX7_weigh_37 : decode cX7_weigh 37 = .ok (.if_icmp .ge 18, 3) := by decide +kernel
theorem dX7_weigh_40 : decode cX7_weigh 40 = .ok (.aload_n 0, 1) := by decide +kernel
theorem dX7_weigh_41 : decode cX7_weigh 41 = .ok (.aload_n 0, 1) := by decide +kernel
theorem dX7_weigh_42 : decode cX7_weigh 42 = .ok (.getfield 39, 3) := by decide +kernel
theorem dX7_weigh_45 : decode cX7_weigh 45 = .ok (.aload_n 0, 1) := by decide +kernel
theorem dX7_weigh_46 : decode cX7_weigh 46 = .ok (.getfield 33, 3) := by decide +kernel
theorem dX7_weigh_49 : decode cX7_weigh 49 = .ok (.iconst 0, 1) := by decide +kernel
theorem dX7_weigh_50 : decode cX7_weigh 50 = .ok (.iaload, 1) := by decide +kernel
theorem dX7_weigh_51 : decode cX7_weigh 51 = .ok (.iaload, 1) := by decide +kernel
theorem dX7_weigh_52 : decode cX7_weigh 52 = .ok (.putfield 62, 3) := by decide +kernel
theorem dX7_weigh_55 : decode cX7_weigh 55 = .ok (.aload_n 0, 1) := by decide +kernel
theorem dX7_weigh_56 : decode cX7_weigh 56 = .ok (.getfield 33, 3) := by decide +kernel
theorem dX7_weigh_59 : decode cX7_weigh 59 = .ok (.iload_n 1, 1) := by decide +kernel
theorem dX7_weigh_60 : decode cX7_weigh 60 = .ok (.dup2, 1) := by decide +kernel
theorem dX7_weigh_61 : decode cX7_weigh 61 = .ok (.iaload, 1) := by decide +kernel
theorem dX7_weigh_62 : decode cX7_weigh 62 = .ok (.iconst 1, 1) := by decide +kernel
theorem dX7_weigh_63 : decode cX7_weigh 63 = .ok (.iadd, 1) := by decide +kernel
theorem dX7_weigh_64 : decode cX7_weigh 64 = .ok (.iastore, 1) := by decide +kernel
theorem dX7_weigh_65 : decode cX7_weigh 65 = .ok (.return_, 1) := by decide +kernel
theorem dX8_cellOf_0 : decode cX8_cellOf 0 = .ok (.lload_n 0, 1) := by decide +kernel
theorem dX8_cellOf_1 : decode cX8_cellOf 1 = .ok (.bipush 9, 2) := by decide +kernel
theorem dX8_cellOf_3 : decode cX8_cellOf 3 = .ok (.iload_n 2, 1) := by decide +kernel
theorem dX8_cellOf_4 : decode cX8_cellOf 4 = .ok (.imul, 1) := by decide +kernel
theorem dX8_cellOf_5 : decode cX8_cellOf 5 = .ok (.lushr, 1) := by decide +kernel
theorem dX8_cellOf_6 : decode cX8_cellOf 6 = .ok (.l2i, 1) := by decide +kernel
theorem dX8_cellOf_7 : decode cX8_cellOf 7 = .ok (.bipush 31, 2) := by decide +kernel
theorem dX8_cellOf_9 : decode cX8_cellOf 9 = .ok (.iand, 1) := by decide +kernel
theorem dX8_cellOf_10 : decode cX8_cellOf 10 = .ok (.ireturn, 1) := by decide +kernel
theorem dX8_ageOf_0 : decode cX8_ageOf 0 = .ok (.lload_n 0, 1) := by decide +kernel
theorem dX8_ageOf_1 : decode cX8_ageOf 1 = .ok (.bipush 9, 2) := by decide +kernel
theorem dX8_ageOf_3 : decode cX8_ageOf 3 = .ok (.iload_n 2, 1) := by decide +kernel
theorem dX8_ageOf_4 : decode cX8_ageOf 4 = .ok (.imul, 1) := by decide +kernel
theorem dX8_ageOf_5 : decode cX8_ageOf 5 = .ok (.iconst 5, 1) := by decide +kernel
theorem dX8_ageOf_6 : decode cX8_ageOf 6 = .ok (.iadd, 1) := by decide +kernel
theorem dX8_ageOf_7 : decode cX8_ageOf 7 = .ok (.lushr, 1) := by decide +kernel
theorem dX8_ageOf_8 : decode cX8_ageOf 8 = .ok (.l2i, 1) := by decide +kernel
theorem dX8_ageOf_9 : decode cX8_ageOf 9 = .ok (.bipush 15, 2) := by decide +kernel
theorem dX8_ageOf_11 : decode cX8_ageOf 11 = .ok (.iand, 1) := by decide +kernel
theorem dX8_ageOf_12 : decode cX8_ageOf 12 = .ok (.ireturn, 1) := by decide +kernel
theorem dX8_turnOf_0 : decode cX8_turnOf 0 = .ok (.lload_n 0, 1) := by decide +kernel
theorem dX8_turnOf_1 : decode cX8_turnOf 1 = .ok (.bipush 54, 2) := by decide +kernel
theorem dX8_turnOf_3 : decode cX8_turnOf 3 = .ok (.lushr, 1) := by decide +kernel
theorem dX8_turnOf_4 : decode cX8_turnOf 4 = .ok (.l2i, 1) := by decide +kernel
theorem dX8_turnOf_5 : decode cX8_turnOf 5 = .ok (.iconst 1, 1) := by decide +kernel
theorem dX8_turnOf_6 : decode cX8_turnOf 6 = .ok (.iand, 1) := by decide +kernel
theorem dX8_turnOf_7 : decode cX8_turnOf 7 = .ok (.ireturn, 1) := by decide +kernel
theorem dX8_isUp_0 : decode cX8_isUp 0 = .ok (.lload_n 0, 1) := by decide +kernel
theorem dX8_isUp_1 : decode cX8_isUp 1 = .ok (.iload_n 2, 1) := by decide +kernel
theorem dX8_isUp_2 : decode cX8_isUp 2 = .ok (.invokestatic 11, 3) := by decide +kernel
theorem dX8_isUp_5 : decode cX8_isUp 5 = .ok (.bipush 31, 2) := by decide +kernel
theorem dX8_isUp_7 : decode cX8_isUp 7 = .ok (.if_icmp .eq 7, 3) := by decide +kernel
theorem dX8_isUp_10 : decode cX8_isUp 10 = .ok (.iconst 1, 1) := by decide +kernel
theorem dX8_isUp_11 : decode cX8_isUp 11 = .ok (.goto 4, 3) := by decide +kernel
theorem dX8_isUp_14 : decode cX8_isUp 14 = .ok (.iconst 0, 1) := by decide +kernel
theorem dX8_isUp_15 : decode cX8_isUp 15 = .ok (.ireturn, 1) := by decide +kernel
theorem dX8_withTurn_0 : decode cX8_withTurn 0 = .ok (.lload_n 0, 1) := by decide +kernel
theorem dX8_withTurn_1 : decode cX8_withTurn 1 = .ok (.ldc2_w 15, 3) := by decide +kernel
theorem dX8_withTurn_4 : decode cX8_withTurn 4 = .ok (.land, 1) := by decide +kernel
theorem dX8_withTurn_5 : decode cX8_withTurn 5 = .ok (.iload_n 2, 1) := by decide +kernel
theorem dX8_withTurn_6 : decode cX8_withTurn 6 = .ok (.i2l, 1) := by decide +kernel
theorem dX8_withTurn_7 : decode cX8_withTurn 7 = .ok (.bipush 54, 2) := by decide +kernel
theorem dX8_withTurn_9 : decode cX8_withTurn 9 = .ok (.lshl, 1) := by decide +kernel
theorem dX8_withTurn_10 : decode cX8_withTurn 10 = .ok (.lor, 1) := by decide +kernel
theorem dX8_withTurn_11 : decode cX8_withTurn 11 = .ok (.lreturn, 1) := by decide +kernel
theorem dX8_put_0 : decode cX8_put 0 = .ok (.bipush 9, 2) := by decide +kernel
theorem dX8_put_2 : decode cX8_put 2 = .ok (.iload_n 2, 1) := by decide +kernel
theorem dX8_put_3 : decode cX8_put 3 = .ok (.imul, 1) := by decide +kernel
theorem dX8_put_4 : decode cX8_put 4 = .ok (.istore 5, 2) := by decide +kernel
theorem dX8_put_6 : decode cX8_put 6 = .ok (.lload_n 0, 1) := by decide +kernel
theorem dX8_put_7 : decode cX8_put 7 = .ok (.ldc2_w 17, 3) := by decide +kernel
theorem dX8_put_10 : decode cX8_put 10 = .ok (.iload 5, 2) := by decide +kernel
theorem dX8_put_12 : decode cX8_put 12 = .ok (.lshl, 1) := by decide +kernel
theorem dX8_put_13 : decode cX8_put 13 = .ok (.ldc2_w 19, 3) := by decide +kernel
theorem dX8_put_16 : decode cX8_put 16 = .ok (.lxor, 1) := by decide +kernel
theorem dX8_put_17 : decode cX8_put 17 = .ok (.land, 1) := by decide +kernel
theorem dX8_put_18 : decode cX8_put 18 = .ok (.iload_n 3, 1) := by decide +kernel
theorem dX8_put_19 : decode cX8_put 19 = .ok (.iload 4, 2) := by decide +kernel
theorem dX8_put_21 : decode cX8_put 21 = .ok (.iconst 5, 1) := by decide +kernel
theorem dX8_put_22 : decode cX8_put 22 = .ok (.ishl, 1) := by decide +kernel
theorem dX8_put_23 : decode cX8_put 23 = .ok (.ior, 1) := by decide +kernel
theorem dX8_put_24 : decode cX8_put 24 = .ok (.i2l, 1) := by decide +kernel
theorem dX8_put_25 : decode cX8_put 25 = .ok (.iload 5, 2) := by decide +kernel
theorem dX8_put_27 : decode cX8_put 27 = .ok (.lshl, 1) := by decide +kernel
theorem dX8_put_28 : decode cX8_put 28 = .ok (.lor, 1) := by decide +kernel
theorem dX8_put_29 : decode cX8_put 29 = .ok (.lreturn, 1) := by decide +kernel
theorem dX8_manOn_0 : decode cX8_manOn 0 = .ok (.iconst 0, 1) := by decide +kernel
theorem dX8_manOn_1 : decode cX8_manOn 1 = .ok (.istore_n 3, 1) := by decide +kernel
theorem dX8_manOn_2 : decode cX8_manOn 2 = .ok (.iload_n 3, 1) := by decide +kernel
theorem dX8_manOn_3 : decode cX8_manOn 3 = .ok (.bipush 6, 2) := by decide +kernel
theorem dX8_manOn_5 : decode cX8_manOn 5 = .ok (.if_icmp .ge 20, 3) := by decide +kernel
theorem dX8_manOn_8 : decode cX8_manOn 8 = .ok (.lload_n 0, 1) := by decide +kernel
theorem dX8_manOn_9 : decode cX8_manOn 9 = .ok (.iload_n 3, 1) := by decide +kernel
theorem dX8_manOn_10 : decode cX8_manOn 10 = .ok (.invokestatic 11, 3) := by decide +kernel
theorem dX8_manOn_13 : decode cX8_manOn 13 = .ok (.iload_n 2, 1) := by decide +kernel
theorem dX8_manOn_14 : decode cX8_manOn 14 = .ok (.if_icmp .ne 5, 3) := by decide +kernel
theorem dX8_manOn_17 : decode cX8_manOn 17 = .ok (.iload_n 3, 1) := by decide +kernel
theorem dX8_manOn_18 : decode cX8_manOn 18 = .ok (.ireturn, 1) := by decide +kernel
theorem dX8_manOn_19 : decode cX8_manOn 19 = .ok (.iinc 3 1, 3) := by decide +kernel
theorem dX8_manOn_22 : decode cX8_manOn 22 = .ok (.goto (-20), 3) := by decide +kernel
theorem dX8_manOn_25 : decode cX8_manOn 25 = .ok (.bipush (-6), 2) := by decide +kernel
theorem dX8_manOn_27 : decode cX8_manOn 27 = .ok (.ireturn, 1) := by decide +kernel
theorem dX8_countMen_0 : decode cX8_countMen 0 = .ok (.lload_n 0, 1) := by decide +kernel
theorem dX8_countMen_1 : decode cX8_countMen 1 = .ok (.iconst 0, 1) := by decide +kernel
theorem dX8_countMen_2 : decode cX8_countMen 2 = .ok (.invokestatic 21, 3) := by decide +kernel
theorem dX8_countMen_5 : decode cX8_countMen 5 = .ok (.invokestatic 24, 3) := by decide +kernel
theorem dX8_countMen_8 : decode cX8_countMen 8 = .ok (.lload_n 0, 1) := by decide +kernel
theorem dX8_countMen_9 : decode cX8_countMen 9 = .ok (.iconst 1, 1) := by decide +kernel
theorem dX8_countMen_10 : decode cX8_countMen 10 = .ok (.invokestatic 21, 3) := by decide +kernel
theorem dX8_countMen_13 : decode cX8_countMen 13 = .ok (.invokestatic 24, 3) := by decide +kernel
theorem dX8_countMen_16 : decode cX8_countMen 16 = .ok (.iadd, 1) := by decide +kernel
theorem dX8_countMen_17 : decode cX8_countMen 17 = .ok (.ireturn, 1) := by decide +kernel
theorem dX8_cellsOf_0 : decode cX8_cellsOf 0 = .ok (.iconst 0, 1) := by decide +kernel
theorem dX8_cellsOf_1 : decode cX8_cellsOf 1 = .ok (.istore_n 3, 1) := by decide +kernel
theorem dX8_cellsOf_2 : decode cX8_cellsOf 2 = .ok (.iconst 0, 1) := by decide +kernel
theorem dX8_cellsOf_3 : decode cX8_cellsOf 3 = .ok (.istore 4, 2) := by decide +kernel
theorem dX8_cellsOf_5 : decode cX8_cellsOf 5 = .ok (.iload 4, 2) := by decide +kernel
theorem dX8_cellsOf_7 : decode cX8_cellsOf 7 = .ok (.iconst 3, 1) := by decide +kernel
theorem dX8_cellsOf_8 : decode cX8_cellsOf 8 = .ok (.if_icmp .ge 35, 3) := by decide +kernel
theorem dX8_cellsOf_11 : decode cX8_cellsOf 11 = .ok (.lload_n 0, 1) := by decide +kernel
theorem dX8_cellsOf_12 : decode cX8_cellsOf 12 = .ok (.iconst 3, 1) := by decide +kernel
theorem dX8_cellsOf_13 : decode cX8_cellsOf 13 = .ok (.iload_n 2, 1) := by decide +kernel
theorem dX8_cellsOf_14 : decode cX8_cellsOf 14 = .ok (.imul, 1) := by decide +kernel
theorem dX8_cellsOf_15 : decode cX8_cellsOf 15 = .ok (.iload 4, 2) := by decide +kernel
theorem dX8_cellsOf_17 : decode cX8_cellsOf 17 = .ok (.iadd, 1) := by decide +kernel
theorem dX8_cellsOf_18 : decode cX8_cellsOf 18 = .ok (.invokestatic 11, 3) := by decide +kernel
theorem dX8_cellsOf_21 : decode cX8_cellsOf 21 = .ok (.istore 5, 2) := by decide +kernel
theorem dX8_cellsOf_23 : decode cX8_cellsOf 23 = .ok (.iload 5, 2) := by decide +kernel
theorem dX8_cellsOf_25 : decode cX8_cellsOf 25 = .ok (.bipush 31, 2) := by decide +kernel
theorem dX8_cellsOf_27 : decode cX8_cellsOf 27 = .ok (.if_icmp .eq 10, 3) := by decide +kernel
theorem dX8_cellsOf_30 : decode cX8_cellsOf 30 = .ok (.iload_n 3, 1) := by decide +kernel
theorem dX8_cellsOf_31 : decode cX8_cellsOf 31 = .ok (.iconst 1, 1) := by decide +kernel
theorem dX8_cellsOf_32 : decode cX8_cellsOf 32 = .ok (.iload 5, 2) := by decide +kernel
theorem dX8_cellsOf_34 : decode cX8_cellsOf 34 = .ok (.ishl, 1) := by decide +kernel
theorem dX8_cellsOf_35 : decode cX8_cellsOf 35 = .ok (.ior, 1) := by decide +kernel
theorem dX8_cellsOf_36 : decode cX8_cellsOf 36 = .ok (.istore_n 3, 1) := by decide +kernel
theorem dX8_cellsOf_37 : decode cX8_cellsOf 37 = .ok (.iinc 4 1, 3) := by decide +kernel
theorem dX8_cellsOf_40 : decode cX8_cellsOf 40 = .ok (.goto (-35), 3) := by decide +kernel
theorem dX8_cellsOf_43 : decode cX8_cellsOf 43 = .ok (.iload_n 3, 1) := by decide +kernel
theorem dX8_cellsOf_44 : decode cX8_cellsOf 44 = .ok (.ireturn, 1) := by decide +kernel
theorem dX8_asTold_0 : decode cX8_asTold 0 = .ok (.bipush 100, 2) := by decide +kernel
theorem dX8_asTold_2 : decode cX8_asTold 2 = .ok (.lload_n 0, 1) := by decide +kernel
theorem dX8_asTold_3 : decode cX8_asTold 3 = .ok (.iload_n 2, 1) := by decide +kernel
theorem dX8_asTold_4 : decode cX8_asTold 4 = .ok (.iconst 5, 1) := by decide +kernel
theorem dX8_asTold_5 : decode cX8_asTold 5 = .ok (.ishr, 1) := by decide +kernel
theorem dX8_asTold_6 : decode cX8_asTold 6 = .ok (.invokestatic 11, 3) := by decide +kernel
theorem dX8_asTold_9 : decode cX8_asTold 9 = .ok (.imul, 1) := by decide +kernel
theorem dX8_asTold_10 : decode cX8_asTold 10 = .ok (.iload_n 2, 1) := by decide +kernel
theorem dX8_asTold_11 : decode cX8_asTold 11 = .ok (.bipush 31, 2) := by decide +kernel
theorem dX8_asTold_13 : decode cX8_asTold 13 = .ok (.iand, 1) := by decide +kernel
theorem dX8_asTold_14 : decode cX8_asTold 14 = .ok (.iadd, 1) := by decide +kernel
theorem dX8_asTold_15 : decode cX8_asTold 15 = .ok (.ireturn, 1) := by decide +kernel
theorem dX8_after_0 : decode cX8_after 0 = .ok (.iload_n 2, 1) := by decide +kernel
theorem dX8_after_1 : decode cX8_after 1 = .ok (.iconst 5, 1) := by decide +kernel
theorem dX8_after_2 : decode cX8_after 2 = .ok (.ishr, 1) := by decide +kernel
theorem dX8_after_3 : decode cX8_after 3 = .ok (.istore_n 3, 1) := by decide +kernel
theorem dX8_after_4 : decode cX8_after 4 = .ok (.iload_n 2, 1) := by decide +kernel
theorem dX8_after_5 : decode cX8_after 5 = .ok (.bipush 31, 2) := by decide +kernel
theorem dX8_after_7 : decode cX8_after 7 = .ok (.iand, 1) := by decide +kernel
theorem dX8_after_8 : decode cX8_after 8 = .ok (.istore 4, 2) := by decide +kernel
theorem dX8_after_10 : decode cX8_after 10 = .ok (.lload_n 0, 1) := by decide +kernel
theorem dX8_after_11 : decode cX8_after 11 = .ok (.iload_n 3, 1) := by decide +kernel
theorem dX8_after_12 : decode cX8_after 12 = .ok (.invokestatic 30, 3) := by decide +kernel
theorem dX8_after_15 : decode cX8_after 15 = .ok (.istore 5, 2) := by decide +kernel
theorem dX8_after_17 : decode cX8_after 17 = .ok (.iload_n 3, 1) := by decide +kernel
theorem dX8_after_18 : decode cX8_after 18 = .ok (.iconst 3, 1) := by decide +kernel
theorem dX8_after_19 : decode cX8_after 19 = .ok (.if_icmp .ge 7, 3) := by decide +kernel
theorem dX8_after_22 : decode cX8_after 22 = .ok (.iconst 3, 1) := by decide +kernel
theorem dX8_after_23 : decode cX8_after 23 = .ok (.goto 4, 3) := by decide +kernel
theorem dX8_after_26 : decode cX8_after 26 = .ok (.iconst 0, 1) := by decide +kernel
theorem dX8_after_27 : decode cX8_after 27 = .ok (.istore 6, 2) := by decide +kernel
theorem dX8_after_29 : decode cX8_after 29 = .ok (.lload_n 0, 1) := by decide +kernel
theorem dX8_after_30 : decode cX8_after 30 = .ok (.iload_n 3, 1) := by decide +kernel
theorem dX8_after_31 : decode cX8_after 31 = .ok (.iload 4, 2) := by decide +kernel
theorem dX8_after_33 : decode cX8_after 33 = .ok (.iload 5, 2) := by decide +kernel
theorem dX8_after_35 : decode cX8_after 35 = .ok (.bipush 9, 2) := by decide +kernel
theorem dX8_after_37 : decode cX8_after 37 = .ok (.if_icmp .ge 10, 3) := by decide +kernel
theorem dX8_after_40 : decode cX8_after 40 = .ok (.iload 5, 2) := by decide +kernel
theorem dX8_after_42 : decode cX8_after 42 = .ok (.iconst 1, 1) := by decide +kernel
theorem dX8_after_43 : decode cX8_after 43 = .ok (.iadd, 1) := by decide +kernel
theorem dX8_after_44 : decode cX8_after 44 = .ok (.goto 5, 3) := by decide +kernel
theorem dX8_after_47 : decode cX8_after 47 = .ok (.bipush 9, 2) := by decide +kernel
theorem dX8_after_49 : decode cX8_after 49 = .ok (.invokestatic 33, 3) := by decide +kernel
theorem dX8_after_52 : decode cX8_after 52 = .ok (.ldc2_w 37, 3) := by decide +kernel
theorem dX8_after_55 : decode cX8_after 55 = .ok (.lxor, 1) := by decide +kernel
theorem dX8_after_56 : decode cX8_after 56 = .ok (.lstore 7, 2) := by decide +kernel
theorem dX8_after_58 : decode cX8_after 58 = .ok (.iload 6, 2) := by decide +kernel
theorem dX8_after_60 : decode cX8_after 60 = .ok (.istore 9, 2) := by decide +kernel
theorem dX8_after_62 : decode cX8_after 62 = .ok (.iload 9, 2) := by decide +kernel
theorem dX8_after_64 : decode cX8_after 64 = .ok (.iload 6, 2) := by decide +kernel
theorem dX8_after_66 : decode cX8_after 66 = .ok (.iconst 3, 1) := by decide +kernel
theorem dX8_after_67 : decode cX8_after 67 = .ok (.iadd, 1) := by decide +kernel
theorem dX8_after_68 : decode cX8_after 68 = .ok (.if_icmp .ge 33, 3) := by decide +kernel
theorem dX8_after_71 : decode cX8_after 71 = .ok (.lload 7, 2) := by decide +kernel
theorem dX8_after_73 : decode cX8_after 73 = .ok (.iload 9, 2) := by decide +kernel
theorem dX8_after_75 : decode cX8_after 75 = .ok (.invokestatic 11, 3) := by decide +kernel
theorem dX8_after_78 : decode cX8_after 78 = .ok (.iload 4, 2) := by decide +kernel
theorem dX8_after_80 : decode cX8_after 80 = .ok (.if_icmp .ne 15, 3) := by decide +kernel
theorem dX8_after_83 : decode cX8_after 83 = .ok (.lload 7, 2) := by decide +kernel
theorem dX8_after_85 : decode cX8_after 85 = .ok (.iload 9, 2) := by decide +kernel
theorem dX8_after_87 : decode cX8_after 87 = .ok (.bipush 31, 2) := by decide +kernel
theorem dX8_after_89 : decode cX8_after 89 = .ok (.iconst 0, 1) := by decide +kernel
theorem dX8_after_90 : decode cX8_after 90 = .ok (.invokestatic 33, 3) := by decide +kernel
theorem dX8_after_93 : decode cX8_after 93 = .ok (.lstore 7, 2) := by decide +kernel
theorem dX8_after_95 : decode cX8_after 95 = .ok (.iinc 9 1, 3) := by decide +kernel
theorem dX8_after_98 : decode cX8_after 98 = .ok (.goto (-36), 3) := by decide +kernel
theorem dX8_after_101 : decode cX8_after 101 = .ok (.lload 7, 2) := by decide +kernel
theorem dX8_after_103 : decode cX8_after 103 = .ok (.lreturn, 1) := by decide +kernel
theorem dX8_mirrored_0 : decode cX8_mirrored 0 = .ok (.lload_n 0, 1) := by decide +kernel
theorem dX8_mirrored_1 : decode cX8_mirrored 1 = .ok (.lstore_n 3, 1) := by decide +kernel
theorem dX8_mirrored_2 : decode cX8_mirrored 2 = .ok (.iconst 0, 1) := by decide +kernel
theorem dX8_mirrored_3 : decode cX8_mirrored 3 = .ok (.istore 5, 2) := by decide +kernel
theorem dX8_mirrored_5 : decode cX8_mirrored 5 = .ok (.iload 5, 2) := by decide +kernel
theorem dX8_mirrored_7 : decode cX8_mirrored 7 = .ok (.bipush 6, 2) := by decide +kernel
theorem dX8_mirrored_9 : decode cX8_mirrored 9 = .ok (.if_icmp .ge 43, 3) := by decide +kernel
theorem dX8_mirrored_12 : decode cX8_mirrored 12 = .ok (.lload_n 0, 1) := by decide +kernel
theorem dX8_mirrored_13 : decode cX8_mirrored 13 = .ok (.iload 5, 2) := by decide +kernel
theorem dX8_mirrored_15 : decode cX8_mirrored 15 = .ok (.invokestatic 11, 3) := by decide +kernel
theorem dX8_mirrored_18 : decode cX8_mirrored 18 = .ok (.istore 6, 2) := by decide +kernel
theorem dX8_mirrored_20 : decode cX8_mirrored 20 = .ok (.iload 6, 2) := by decide +kernel
theorem dX8_mirrored_22 : decode cX8_mirrored 22 = .ok (.bipush 31, 2) := by decide +kernel
theorem dX8_mirrored_24 : decode cX8_mirrored 24 = .ok (.if_icmp .eq 22, 3) := by decide +kernel
theorem dX8_mirrored_27 : decode cX8_mirrored 27 = .ok (.lload_n 3, 1) := by decide +kernel
theorem dX8_mirrored_28 : decode cX8_mirrored 28 = .ok (.iload 5, 2) := by decide +kernel
theorem dX8_mirrored_30 : decode cX8_mirrored 30 = .ok (.iload 6, 2) := by decide +kernel
theorem dX8_mirrored_32 : decode cX8_mirrored 32 = .ok (.iload_n 2, 1) := by decide +kernel
theorem dX8_mirrored_33 : decode cX8_mirrored 33 = .ok (.invokestatic 39, 3) := by decide +kernel
theorem dX8_mirrored_36 : decode cX8_mirrored 36 = .ok (.lload_n 0, 1) := by decide +kernel
theorem dX8_mirrored_37 : decode cX8_mirrored 37 = .ok (.iload 5, 2) := by decide +kernel
theorem dX8_mirrored_39 : decode cX8_mirrored 39 = .ok (.invokestatic 30, 3) := by decide +kernel
theorem dX8_mirrored_42 : decode cX8_mirrored 42 = .ok (.invokestatic 33, 3) := by decide +kernel
theorem dX8_mirrored_45 : decode cX8_mirrored 45 = .ok (.lstore_n 3, 1) := by decide +kernel
theorem dX8_mirrored_46 : decode cX8_mirrored 46 = .ok (.iinc 5 1, 3) := by decide +kernel
theorem dX8_mirrored_49 : decode cX8_mirrored 49 = .ok (.goto (-44), 3) := by decide +kernel
theorem dX8_mirrored_52 : decode cX8_mirrored 52 = .ok (.lload_n 3, 1) := by decide +kernel
theorem dX8_mirrored_53 : decode cX8_mirrored 53 = .ok (.lreturn, 1) := by decide +kernel
theorem dX8_mirroredCell_0 : decode cX8_mirroredCell 0 = .ok (.iload_n 0, 1) := by decide +kernel
theorem dX8_mirroredCell_1 : decode cX8_mirroredCell 1 = .ok (.iconst 5, 1) := by decide +kernel
theorem dX8_mirroredCell_2 : decode cX8_mirroredCell 2 = .ok (.irem, 1) := by decide +kernel
theorem dX8_mirroredCell_3 : decode cX8_mirroredCell 3 = .ok (.istore_n 2, 1) := by decide +kernel
theorem dX8_mirroredCell_4 : decode cX8_mirroredCell 4 = .ok (.iload_n 0, 1) := by decide +kernel
theorem dX8_mirroredCell_5 : decode cX8_mirroredCell 5 = .ok (.iconst 5, 1) := by decide +kernel
theorem dX8_mirroredCell_6 : decode cX8_mirroredCell 6 = .ok (.idiv, 1) := by decide +kernel
theorem dX8_mirroredCell_7 : decode cX8_mirroredCell 7 = .ok (.istore_n 3, 1) := by decide +kernel
theorem dX8_mirroredCell_8 : decode cX8_mirroredCell 8 = .ok (.iload_n 1, 1) := by decide +kernel
theorem dX8_mirroredCell_9 : decode cX8_mirroredCell 9 = .ok (.iconst 1, 1) := by decide +kernel
theorem dX8_mirroredCell_10 : decode cX8_mirroredCell 10 = .ok (.iand, 1) := by decide +kernel
theorem dX8_mirroredCell_11 : decode cX8_mirroredCell 11 = .ok (.ifCond .eq 9, 3) := by decide +kernel
theorem dX8_mirroredCell_14 : decode cX8_mirroredCell 14 = .ok (.iconst 4, 1) := by decide +kernel
theorem dX8_mirroredCell_15 : decode cX8_mirroredCell 15 = .ok (.iload_n 2, 1) := by decide +kernel
theorem dX8_mirroredCell_16 : decode cX8_mirroredCell 16 = .ok (.isub, 1) := by decide +kernel
theorem dX8_mirroredCell_17 : decode cX8_mirroredCell 17 = .ok (.goto 4, 3) := by decide +kernel
theorem dX8_mirroredCell_20 : decode cX8_mirroredCell 20 = .ok (.iload_n 2, 1) := by decide +kernel
theorem dX8_mirroredCell_21 : decode cX8_mirroredCell 21 = .ok (.istore 4, 2) := by decide +kernel
theorem dX8_mirroredCell_23 : decode cX8_mirroredCell 23 = .ok (.iload_n 1, 1) := by decide +kernel
theorem dX8_mirroredCell_24 : decode cX8_mirroredCell 24 = .ok (.iconst 2, 1) := by decide +kernel
theorem dX8_mirroredCell_25 : decode cX8_mirroredCell 25 = .ok (.iand, 1) := by decide +kernel
theorem dX8_mirroredCell_26 : decode cX8_mirroredCell 26 = .ok (.ifCond .eq 9, 3) := by decide +kernel
theorem dX8_mirroredCell_29 : decode cX8_mirroredCell 29 = .ok (.iconst 4, 1) := by decide +kernel
theorem dX8_mirroredCell_30 : decode cX8_mirroredCell 30 = .ok (.iload_n 3, 1) := by decide +kernel
theorem dX8_mirroredCell_31 : decode cX8_mirroredCell 31 = .ok (.isub, 1) := by decide +kernel
theorem dX8_mirroredCell_32 : decode cX8_mirroredCell 32 = .ok (.goto 4, 3) := by decide +kernel
theorem dX8_mirroredCell_35 : decode cX8_mirroredCell 35 = .ok (.iload_n 3, 1) := by decide +kernel
theorem dX8_mirroredCell_36 : decode cX8_mirroredCell 36 = .ok (.istore 5, 2) := by decide +kernel
theorem dX8_mirroredCell_38 : decode cX8_mirroredCell 38 = .ok (.iload 4, 2) := by decide +kernel
theorem dX8_mirroredCell_40 : decode cX8_mirroredCell 40 = .ok (.iconst 5, 1) := by decide +kernel
theorem dX8_mirroredCell_41 : decode cX8_mirroredCell 41 = .ok (.iload 5, 2) := by decide +kernel
theorem dX8_mirroredCell_43 : decode cX8_mirroredCell 43 = .ok (.imul, 1) := by decide +kernel
theorem dX8_mirroredCell_44 : decode cX8_mirroredCell 44 = .ok (.iadd, 1) := by decide +kernel
theorem dX8_mirroredCell_45 : decode cX8_mirroredCell 45 = .ok (.ireturn, 1) := by decide +kernel
theorem dJ6_bitCount_0f7a4_0 : decode cJ6_bitCount_0f7a4 0 = .ok (.iload_n 0, 1) := by decide +kernel
theorem dJ6_bitCount_0f7a4_1 : decode cJ6_bitCount_0f7a4 1 = .ok (.iload_n 0, 1) := by decide +kernel
theorem dJ6_bitCount_0f7a4_2 : decode cJ6_bitCount_0f7a4 2 = .ok (.iconst 1, 1) := by decide +kernel
theorem dJ6_bitCount_0f7a4_3 : decode cJ6_bitCount_0f7a4 3 = .ok (.iushr, 1) := by decide +kernel
theorem dJ6_bitCount_0f7a4_4 : decode cJ6_bitCount_0f7a4 4 = .ok (.ldc_w 265, 3) := by decide +kernel
theorem dJ6_bitCount_0f7a4_7 : decode cJ6_bitCount_0f7a4 7 = .ok (.iand, 1) := by decide +kernel
theorem dJ6_bitCount_0f7a4_8 : decode cJ6_bitCount_0f7a4 8 = .ok (.isub, 1) := by decide +kernel
theorem dJ6_bitCount_0f7a4_9 : decode cJ6_bitCount_0f7a4 9 = .ok (.istore_n 0, 1) := by decide +kernel
theorem dJ6_bitCount_0f7a4_10 : decode cJ6_bitCount_0f7a4 10 = .ok (.iload_n 0, 1) := by decide +kernel
theorem dJ6_bitCount_0f7a4_11 : decode cJ6_bitCount_0f7a4 11 = .ok (.ldc_w 266, 3) := by decide +kernel
theorem dJ6_bitCount_0f7a4_14 : decode cJ6_bitCount_0f7a4 14 = .ok (.iand, 1) := by decide +kernel
theorem dJ6_bitCount_0f7a4_15 : decode cJ6_bitCount_0f7a4 15 = .ok (.iload_n 0, 1) := by decide +kernel
theorem dJ6_bitCount_0f7a4_16 : decode cJ6_bitCount_0f7a4 16 = .ok (.iconst 2, 1) := by decide +kernel
theorem dJ6_bitCount_0f7a4_17 : decode cJ6_bitCount_0f7a4 17 = .ok (.iushr, 1) := by decide +kernel
theorem dJ6_bitCount_0f7a4_18 : decode cJ6_bitCount_0f7a4 18 = .ok (.ldc_w 266, 3) := by decide +kernel
theorem dJ6_bitCount_0f7a4_21 : decode cJ6_bitCount_0f7a4 21 = .ok (.iand, 1) := by decide +kernel
theorem dJ6_bitCount_0f7a4_22 : decode cJ6_bitCount_0f7a4 22 = .ok (.iadd, 1) := by decide +kernel
theorem dJ6_bitCount_0f7a4_23 : decode cJ6_bitCount_0f7a4 23 = .ok (.istore_n 0, 1) := by decide +kernel
theorem dJ6_bitCount_0f7a4_24 : decode cJ6_bitCount_0f7a4 24 = .ok (.iload_n 0, 1) := by decide +kernel
theorem dJ6_bitCount_0f7a4_25 : decode cJ6_bitCount_0f7a4 25 = .ok (.iload_n 0, 1) := by decide +kernel
theorem dJ6_bitCount_0f7a4_26 : decode cJ6_bitCount_0f7a4 26 = .ok (.iconst 4, 1) := by decide +kernel
theorem dJ6_bitCount_0f7a4_27 : decode cJ6_bitCount_0f7a4 27 = .ok (.iushr, 1) := by decide +kernel
theorem dJ6_bitCount_0f7a4_28 : decode cJ6_bitCount_0f7a4 28 = .ok (.iadd, 1) := by decide +kernel
theorem dJ6_bitCount_0f7a4_29 : decode cJ6_bitCount_0f7a4 29 = .ok (.ldc_w 267, 3) := by decide +kernel
theorem dJ6_bitCount_0f7a4_32 : decode cJ6_bitCount_0f7a4 32 = .ok (.iand, 1) := by decide +kernel
theorem dJ6_bitCount_0f7a4_33 : decode cJ6_bitCount_0f7a4 33 = .ok (.istore_n 0, 1) := by decide +kernel
theorem dJ6_bitCount_0f7a4_34 : decode cJ6_bitCount_0f7a4 34 = .ok (.iload_n 0, 1) := by decide +kernel
theorem dJ6_bitCount_0f7a4_35 : decode cJ6_bitCount_0f7a4 35 = .ok (.iload_n 0, 1) := by decide +kernel
theorem dJ6_bitCount_0f7a4_36 : decode cJ6_bitCount_0f7a4 36 = .ok (.bipush 8, 2) := by decide +kernel
theorem dJ6_bitCount_0f7a4_38 : decode cJ6_bitCount_0f7a4 38 = .ok (.iushr, 1) := by decide +kernel
theorem dJ6_bitCount_0f7a4_39 : decode cJ6_bitCount_0f7a4 39 = .ok (.iadd, 1) := by decide +kernel
theorem dJ6_bitCount_0f7a4_40 : decode cJ6_bitCount_0f7a4 40 = .ok (.istore_n 0, 1) := by decide +kernel
theorem dJ6_bitCount_0f7a4_41 : decode cJ6_bitCount_0f7a4 41 = .ok (.iload_n 0, 1) := by decide +kernel
theorem dJ6_bitCount_0f7a4_42 : decode cJ6_bitCount_0f7a4 42 = .ok (.iload_n 0, 1) := by decide +kernel
theorem dJ6_bitCount_0f7a4_43 : decode cJ6_bitCount_0f7a4 43 = .ok (.bipush 16, 2) := by decide +kernel
theorem dJ6_bitCount_0f7a4_45 : decode cJ6_bitCount_0f7a4 45 = .ok (.iushr, 1) := by decide +kernel
theorem dJ6_bitCount_0f7a4_46 : decode cJ6_bitCount_0f7a4 46 = .ok (.iadd, 1) := by decide +kernel
theorem dJ6_bitCount_0f7a4_47 : decode cJ6_bitCount_0f7a4 47 = .ok (.istore_n 0, 1) := by decide +kernel
theorem dJ6_bitCount_0f7a4_48 : decode cJ6_bitCount_0f7a4 48 = .ok (.iload_n 0, 1) := by decide +kernel
theorem dJ6_bitCount_0f7a4_49 : decode cJ6_bitCount_0f7a4 49 = .ok (.bipush 63, 2) := by decide +kernel
theorem dJ6_bitCount_0f7a4_51 : decode cJ6_bitCount_0f7a4 51 = .ok (.iand, 1) := by decide +kernel
theorem dJ6_bitCount_0f7a4_52 : decode cJ6_bitCount_0f7a4 52 = .ok (.ireturn, 1) := by decide +kernel
theorem dJ9_max_7cf53_0 : decode cJ9_max_7cf53 0 = .ok (.iload_n 0, 1) := by decide +kernel
theorem dJ9_max_7cf53_1 : decode cJ9_max_7cf53 1 = .ok (.iload_n 1, 1) := by decide +kernel
theorem dJ9_max_7cf53_2 : decode cJ9_max_7cf53 2 = .ok (.if_icmp .lt 7, 3) := by decide +kernel
theorem dJ9_max_7cf53_5 : decode cJ9_max_7cf53 5 = .ok (.iload_n 0, 1) := by decide +kernel
theorem dJ9_max_7cf53_6 : decode cJ9_max_7cf53 6 = .ok (.goto 4, 3) := by decide +kernel
theorem dJ9_max_7cf53_9 : decode cJ9_max_7cf53 9 = .ok (.iload_n 1, 1) := by decide +kernel
theorem dJ9_max_7cf53_10 : decode cJ9_max_7cf53 10 = .ok (.ireturn, 1) := by decide +kernel
