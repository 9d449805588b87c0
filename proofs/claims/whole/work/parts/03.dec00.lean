theorem dX0_init_0 : decode cX0_init 0 = .ok (.aload_n 0, 1) := by decide +kernel
theorem dX0_init_1 : decode cX0_init 1 = .ok (.invokespecial 3, 3) := by decide +kernel
theorem dX0_init_4 : decode cX0_init 4 = .ok (.aload_n 0, 1) := by decide +kernel
theorem dX0_init_5 : decode cX0_init 5 = .ok (.bipush 64, 2) := by decide +kernel
theorem dX0_init_7 : decode cX0_init 7 = .ok (.newarray .long, 2) := by decide +kernel
theorem dX0_init_9 : decode cX0_init 9 = .ok (.putfield 11, 3) := by decide +kernel
theorem dX0_init_12 : decode cX0_init 12 = .ok (.aload_n 0, 1) := by decide +kernel
theorem dX0_init_13 : decode cX0_init 13 = .ok (.aload_n 1, 1) := by decide +kernel
theorem dX0_init_14 : decode cX0_init 14 = .ok (.putfield 15, 3) := by decide +kernel
theorem dX0_init_17 : decode cX0_init 17 = .ok (.return_, 1) := by decide +kernel
theorem dX0_fewest_0 : decode cX0_fewest 0 = .ok (.iload_n 1, 1) := by decide +kernel
theorem dX0_fewest_1 : decode cX0_fewest 1 = .ok (.ifCond .eq 15, 3) := by decide +kernel
theorem dX0_fewest_4 : decode cX0_fewest 4 = .ok (.aload_n 0, 1) := by decide +kernel
theorem dX0_fewest_5 : decode cX0_fewest 5 = .ok (.getfield 15, 3) := by decide +kernel
theorem dX0_fewest_8 : decode cX0_fewest 8 = .ok (.iload_n 1, 1) := by decide +kernel
theorem dX0_fewest_9 : decode cX0_fewest 9 = .ok (.invokevirtual 19, 3) := by decide +kernel
theorem dX0_fewest_12 : decode cX0_fewest 12 = .ok (.iload_n 2, 1) := by decide +kernel
theorem dX0_fewest_13 : decode cX0_fewest 13 = .ok (.if_icmp .gt 5, 3) := by decide +kernel
theorem dX0_fewest_16 : decode cX0_fewest 16 = .ok (.iconst 0, 1) := by decide +kernel
theorem dX0_fewest_17 : decode cX0_fewest 17 = .ok (.ireturn, 1) := by decide +kernel
theorem dX0_fewest_18 : decode cX0_fewest 18 = .ok (.aload_n 0, 1) := by decide +kernel
theorem dX0_fewest_19 : decode cX0_fewest 19 = .ok (.iload_n 1, 1) := by decide +kernel
theorem dX0_fewest_20 : decode cX0_fewest 20 = .ok (.iload_n 2, 1) := by decide +kernel
theorem dX0_fewest_21 : decode cX0_fewest 21 = .ok (.invokevirtual 25, 3) := by decide +kernel
theorem dX0_fewest_24 : decode cX0_fewest 24 = .ok (.iconst 1, 1) := by decide +kernel
theorem dX0_fewest_25 : decode cX0_fewest 25 = .ok (.istore_n 3, 1) := by decide +kernel
theorem dX0_fewest_26 : decode cX0_fewest 26 = .ok (.iload_n 3, 1) := by decide +kernel
theorem dX0_fewest_27 : decode cX0_fewest 27 = .ok (.iconst 3, 1) := by decide +kernel
theorem dX0_fewest_28 : decode cX0_fewest 28 = .ok (.if_icmp .gt 25, 3) := by decide +kernel
theorem dX0_fewest_31 : decode cX0_fewest 31 = .ok (.aload_n 0, 1) := by decide +kernel
theorem dX0_fewest_32 : decode cX0_fewest 32 = .ok (.iload_n 3, 1) := by decide +kernel
theorem dX0_fewest_33 : decode cX0_fewest 33 = .ok (.iload_n 1, 1) := by decide +kernel
theorem dX0_fewest_34 : decode cX0_fewest 34 = .ok (.invokevirtual 29, 3) := by decide +kernel
theorem dX0_fewest_37 : decode cX0_fewest 37 = .ok (.istore 4, 2) := by decide +kernel
theorem dX0_fewest_39 : decode cX0_fewest 39 = .ok (.iload 4, 2) := by decide +kernel
theorem dX0_fewest_41 : decode cX0_fewest 41 = .ok (.ifCond .eq 6, 3) := by decide +kernel
theorem dX0_fewest_44 : decode cX0_fewest 44 = .ok (.iload 4, 2) := by decide +kernel
theorem dX0_fewest_46 : decode cX0_fewest 46 = .ok (.ireturn, 1) := by decide +kernel
theorem dX0_fewest_47 : decode cX0_fewest 47 = .ok (.iinc 3 1, 3) := by decide +kernel
theorem dX0_fewest_50 : decode cX0_fewest 50 = .ok (.goto (-24), 3) := by decide +kernel
theorem dX0_fewest_53 : decode cX0_fewest 53 = .ok (.iconst 0, 1) := by decide +kernel
theorem dX0_fewest_54 : decode cX0_fewest 54 = .ok (.ireturn, 1) := by decide +kernel
theorem dX0_find_0 : decode cX0_find 0 = .ok (.aload_n 0, 1) := by decide +kernel
theorem dX0_find_1 : decode cX0_find 1 = .ok (.getfield 11, 3) := by decide +kernel
theorem dX0_find_4 : decode cX0_find 4 = .ok (.lconst 0, 1) := by decide +kernel
theorem dX0_find_5 : decode cX0_find 5 = .ok (.invokestatic 33, 3) := by decide +kernel
theorem dX0_find_8 : decode cX0_find 8 = .ok (.iconst 0, 1) := by decide +kernel
theorem dX0_find_9 : decode cX0_find 9 = .ok (.istore_n 3, 1) := by decide +kernel
theorem dX0_find_10 : decode cX0_find 10 = .ok (.iload_n 3, 1) := by decide +kernel
theorem dX0_find_11 : decode cX0_find 11 = .ok (.sipush 256, 3) := by decide +kernel
theorem dX0_find_14 : decode cX0_find 14 = .ok (.if_icmp .ge 104, 3) := by decide +kernel
theorem dX0_find_17 : decode cX0_find 17 = .ok (.aload_n 0, 1) := by decide +kernel
theorem dX0_find_18 : decode cX0_find 18 = .ok (.getfield 15, 3) := by decide +kernel
theorem dX0_find_21 : decode cX0_find 21 = .ok (.getfield 39, 3) := by decide +kernel
theorem dX0_find_24 : decode cX0_find 24 = .ok (.iload_n 3, 1) := by decide +kernel
theorem dX0_find_25 : decode cX0_find 25 = .ok (.invokevirtual 43, 3) := by decide +kernel
theorem dX0_find_28 : decode cX0_find 28 = .ok (.ifCond .eq 84, 3) := by decide +kernel
theorem dX0_find_31 : decode cX0_find 31 = .ok (.aload_n 0, 1) := by decide +kernel
theorem dX0_find_32 : decode cX0_find 32 = .ok (.getfield 15, 3) := by decide +kernel
theorem dX0_find_35 : decode cX0_find 35 = .ok (.getfield 39, 3) := by decide +kernel
theorem dX0_find_38 : decode cX0_find 38 = .ok (.iload_n 3, 1) := by decide +kernel
theorem dX0_find_39 : decode cX0_find 39 = .ok (.invokevirtual 49, 3) := by decide +kernel
theorem dX0_find_42 : decode cX0_find 42 = .ok (.iload_n 2, 1) := by decide +kernel
theorem dX0_find_43 : decode cX0_find 43 = .ok (.if_icmp .le 6, 3) := by decide +kernel
theorem dX0_find_46 : decode cX0_find 46 = .ok (.goto 66, 3) := by decide +kernel
theorem dX0_find_49 : decode cX0_find 49 = .ok (.iconst 0, 1) := by decide +kernel
theorem dX0_find_50 : decode cX0_find 50 = .ok (.istore 4, 2) := by decide +kernel
theorem dX0_find_52 : decode cX0_find 52 = .ok (.iload 4, 2) := by decide +kernel
theorem dX0_find_54 : decode cX0_find 54 = .ok (.bipush 16, 2) := by decide +kernel
theorem dX0_find_56 : decode cX0_find 56 = .ok (.if_icmp .ge 56, 3) := by decide +kernel
theorem dX0_find_59 : decode cX0_find 59 = .ok (.iload_n 1, 1) := by decide +kernel
theorem dX0_find_60 : decode cX0_find 60 = .ok (.iload 4, 2) := by decide +kernel
theorem dX0_find_62 : decode cX0_find 62 = .ok (.ishr, 1) := by decide +kernel
theorem dX0_find_63 : decode cX0_find 63 = .ok (.iconst 1, 1) := by decide +kernel
theorem dX0_find_64 : decode cX0_find 64 = .ok (.iand, 1) := by decide +kernel
theorem dX0_find_65 : decode cX0_find 65 = .ok (.iconst 1, 1) := by decide +kernel
theorem dX0_find_66 : decode cX0_find 66 = .ok (.if_icmp .ne 40, 3) := by decide +kernel
theorem dX0_find_69 : decode cX0_find 69 = .ok (.aload_n 0, 1) := by decide +kernel
theorem dX0_find_70 : decode cX0_find 70 = .ok (.getfield 15, 3) := by decide +kernel
theorem dX0_find_73 : decode cX0_find 73 = .ok (.iload_n 3, 1) := by decide +kernel
theorem dX0_find_74 : decode cX0_find 74 = .ok (.iload 4, 2) := by decide +kernel
theorem dX0_find_76 : decode cX0_find 76 = .ok (.invokevirtual 52, 3) := by decide +kernel
theorem dX0_find_79 : decode cX0_find 79 = .ok (.iload_n 2, 1) := by decide +kernel
theorem dX0_find_80 : decode cX0_find 80 = .ok (.if_icmp .gt 26, 3) := by decide +kernel
theorem dX0_find_83 : decode cX0_find 83 = .ok (.aload_n 0, 1) := by decide +kernel
theorem dX0_find_84 : decode cX0_find 84 = .ok (.getfield 11, 3) := by decide +kernel
theorem dX0_find_87 : decode cX0_find 87 = .ok (.iload 4, 2) := by decide +kernel
theorem dX0_find_89 : decode cX0_find 89 = .ok (.iconst 4, 1) := by decide +kernel
theorem dX0_find_90 : decode cX0_find 90 = .ok (.imul, 1) := by decide +kernel
theorem dX0_find_91 : decode cX0_find 91 = .ok (.iload_n 3, 1) := by decide +kernel
theorem dX0_find_92 : decode cX0_find 92 = .ok (.bipush 64, 2) := by decide +kernel
theorem dX0_find_94 : decode cX0_find 94 = .ok (.idiv, 1) := by decide +kernel
theorem dX0_find_95 : decode cX0_find 95 = .ok (.iadd, 1) := by decide +kernel
theorem dX0_find_96 : decode cX0_find 96 = .ok (.dup2, 1) := by decide +kernel
theorem dX0_find_97 : decode cX0_find 97 = .ok (.laload, 1) := by decide +kernel
theorem dX0_find_98 : decode cX0_find 98 = .ok (.lconst 1, 1) := by decide +kernel
theorem dX0_find_99 : decode cX0_find 99 = .ok (.iload_n 3, 1) := by decide +kernel
theorem dX0_find_100 : decode cX0_find 100 = .ok (.bipush 64, 2) := by decide +kernel
theorem dX0_find_102 : decode cX0_find 102 = .ok (.irem, 1) := by decide +kernel
theorem dX0_find_103 : decode cX0_find 103 = .ok (.lshl, 1) := by decide +kernel
theorem dX0_find_104 : decode cX0_find 104 = .ok (.lor, 1) := by decide +kernel
theorem dX0_find_105 : decode cX0_find 105 = .ok (.lastore, 1) := by decide +kernel
theorem dX0_find_106 : decode cX0_find 106 = .ok (.iinc 4 1, 3) := by decide +kernel
theorem dX0_find_109 : decode cX0_find 109 = .ok (.goto (-57), 3) := by decide +kernel
theorem dX0_find_112 : decode cX0_find 112 = .ok (.iinc 3 1, 3) := by decide +kernel
theorem dX0_find_115 : decode cX0_find 115 = .ok (.goto (-105), 3) := by decide +kernel
theorem dX0_find_118 : decode cX0_find 118 = .ok (.return_, 1) := by decide +kernel
theorem dX0_leastOf_0 : decode cX0_leastOf 0 = .ok (.iconst 0, 1) := by decide +kernel
theorem dX0_leastOf_1 : decode cX0_leastOf 1 = .ok (.istore_n 3, 1) := by decide +kernel
theorem dX0_leastOf_2 : decode cX0_leastOf 2 = .ok (.iload_n 3, 1) := by decide +kernel
theorem dX0_leastOf_3 : decode cX0_leastOf 3 = .ok (.bipush 16, 2) := by decide +kernel
theorem dX0_leastOf_5 : decode cX0_leastOf 5 = .ok (.if_icmp .ge 91, 3) := by decide +kernel
theorem dX0_leastOf_8 : decode cX0_leastOf 8 = .ok (.iconst 0, 1) := by decide +kernel
theorem dX0_leastOf_9 : decode cX0_leastOf 9 = .ok (.istore 4, 2) := by decide +kernel
theorem dX0_leastOf_11 : decode cX0_leastOf 11 = .ok (.iload 4, 2) := by decide +kernel
theorem dX0_leastOf_13 : decode cX0_leastOf 13 = .ok (.iload_n 3, 1) := by decide +kernel
theorem dX0_leastOf_14 : decode cX0_leastOf 14 = .ok (.if_icmp .gt 76, 3) := by decide +kernel
theorem dX0_leastOf_17 : decode cX0_leastOf 17 = .ok (.iconst 0, 1) := by decide +kernel
theorem dX0_leastOf_18 : decode cX0_leastOf 18 = .ok (.istore 5, 2) := by decide +kernel
theorem dX0_leastOf_20 : decode cX0_leastOf 20 = .ok (.iload 5, 2) := by decide +kernel
theorem dX0_leastOf_22 : decode cX0_leastOf 22 = .ok (.iload 4, 2) := by decide +kernel
theorem dX0_leastOf_24 : decode cX0_leastOf 24 = .ok (.if_icmp .gt 60, 3) := by decide +kernel
theorem dX0_leastOf_27 : decode cX0_leastOf 27 = .ok (.iconst 1, 1) := by decide +kernel
theorem dX0_leastOf_28 : decode cX0_leastOf 28 = .ok (.iload_n 3, 1) := by decide +kernel
theorem dX0_leastOf_29 : decode cX0_leastOf 29 = .ok (.ishl, 1) := by decide +kernel
theorem dX0_leastOf_30 : decode cX0_leastOf 30 = .ok (.iconst 1, 1) := by decide +kernel
theorem dX0_leastOf_31 : decode cX0_leastOf 31 = .ok (.iload 4, 2) := by decide +kernel
theorem dX0_leastOf_33 : decode cX0_leastOf 33 = .ok (.ishl, 1) := by decide +kernel
theorem dX0_leastOf_34 : decode cX0_leastOf 34 = .ok (.ior, 1) := by decide +kernel
theorem dX0_leastOf_35 : decode cX0_leastOf 35 = .ok (.iconst 1, 1) := by decide +kernel
theorem dX0_leastOf_36 : decode cX0_leastOf 36 = .ok (.iload 5, 2) := by decide +kernel
theorem dX0_leastOf_38 : decode cX0_leastOf 38 = .ok (.ishl, 1) := by decide +kernel
theorem dX0_leastOf_39 : decode cX0_leastOf 39 = .ok (.ior, 1) := by decide +kernel
theorem dX0_leastOf_40 : decode cX0_leastOf 40 = .ok (.istore 6, 2) := by decide +kernel
theorem dX0_leastOf_42 : decode cX0_leastOf 42 = .ok (.iload 6, 2) := by decide +kernel
theorem dX0_leastOf_44 : decode cX0_leastOf 44 = .ok (.invokestatic 55, 3) := by decide +kernel
theorem dX0_leastOf_47 : decode cX0_leastOf 47 = .ok (.iload_n 1, 1) := by decide +kernel
theorem dX0_leastOf_48 : decode cX0_leastOf 48 = .ok (.if_icmp .ne 30, 3) := by decide +kernel
theorem dX0_leastOf_51 : decode cX0_leastOf 51 = .ok (.iload 6, 2) := by decide +kernel
theorem dX0_leastOf_53 : decode cX0_leastOf 53 = .ok (.iload_n 2, 1) := by decide +kernel
theorem dX0_leastOf_54 : decode cX0_leastOf 54 = .ok (.iconst (-1), 1) := by decide +kernel
theorem dX0_leastOf_55 : decode cX0_leastOf 55 = .ok (.ixor, 1) := by decide +kernel
theorem dX0_leastOf_56 : decode cX0_leastOf 56 = .ok (.iand, 1) := by decide +kernel
theorem dX0_leastOf_57 : decode cX0_leastOf 57 = .ok (.ifCond .eq 6, 3) := by decide +kernel
theorem dX0_leastOf_60 : decode cX0_leastOf 60 = .ok (.goto 18, 3) := by decide +kernel
theorem dX0_leastOf_63 : decode cX0_leastOf 63 = .ok (.aload_n 0, 1) := by decide +kernel
theorem dX0_leastOf_64 : decode cX0_leastOf 64 = .ok (.iload_n 3, 1) := by decide +kernel
theorem dX0_leastOf_65 : decode cX0_leastOf 65 = .ok (.iload 4, 2) := by decide +kernel
theorem dX0_leastOf_67 : decode cX0_leastOf 67 = .ok (.iload 5, 2) := by decide +kernel
theorem dX0_leastOf_69 : decode cX0_leastOf 69 = .ok (.invokevirtual 60, 3) := by decide +kernel
theorem dX0_leastOf_72 : decode cX0_leastOf 72 = .ok (.ifCond .eq 6, 3) := by decide +kernel
theorem dX0_leastOf_75 : decode cX0_leastOf 75 = .ok (.iload 6, 2) := by decide +kernel
theorem dX0_leastOf_77 : decode cX0_leastOf 77 = .ok (.ireturn, 1) := by decide +kernel
theorem dX0_leastOf_78 : decode cX0_leastOf 78 = .ok (.iinc 5 1, 3) := by decide +kernel
theorem dX0_leastOf_81 : decode cX0_leastOf 81 = .ok (.goto (-61), 3) := by decide +kernel
theorem dX0_leastOf_84 : decode cX0_leastOf 84 = .ok (.iinc 4 1, 3) := by decide +kernel
theorem dX0_leastOf_87 : decode cX0_leastOf 87 = .ok (.goto (-76), 3) := by decide +kernel
theorem dX0_leastOf_90 : decode cX0_leastOf 90 = .ok (.iinc 3 1, 3) := by decide +kernel
theorem dX0_leastOf_93 : decode cX0_leastOf 93 = .ok (.goto (-91), 3) := by decide +kernel
theorem dX0_leastOf_96 : decode cX0_leastOf 96 = .ok (.iconst 0, 1) := by decide +kernel
theorem dX0_leastOf_97 : decode cX0_leastOf 97 = .ok (.ireturn, 1) := by decide +kernel
theorem dX0_isBorneByNone_0 : decode cX0_isBorneByNone 0 = .ok (.iconst 0, 1) := by decide +kernel
theorem dX0_isBorneByNone_1 : decode cX0_isBorneByNone 1 = .ok (.istore 4, 2) := by decide +kernel
theorem dX0_isBorneByNone_3 : decode cX0_isBorneByNone 3 = .ok (.iload 4, 2) := by decide +kernel
theorem dX0_isBorneByNone_5 : decode cX0_isBorneByNone 5 = .ok (.iconst 4, 1) := by decide +kernel
theorem dX0_isBorneByNone_6 : decode cX0_isBorneByNone 6 = .ok (.if_icmp .ge 51, 3) := by decide +kernel
theorem dX0_isBorneByNone_9 : decode cX0_isBorneByNone 9 = .ok (.aload_n 0, 1) := by decide +kernel
theorem dX0_isBorneByNone_10 : decode cX0_isBorneByNone 10 = .ok (.getfield 11, 3) := by decide +kernel
theorem dX0_isBorneByNone_13 : decode cX0_isBorneByNone 13 = .ok (.iload_n 1, 1) := by decide +kernel
theorem dX0_isBorneByNone_14 : decode cX0_isBorneByNone 14 = .ok (.iconst 4, 1) := by decide +kernel
theorem dX0_isBorneByNone_15 : decode cX0_isBorneByNone 15 = .ok (.imul, 1) := by decide +kernel
theorem dX0_isBorneByNone_16 : decode cX0_isBorneByNone 16 = .ok (.iload 4, 2) := by decide +kernel
theorem dX0_isBorneByNone_18 : decode cX0_isBorneByNone 18 = .ok (.iadd, 1) := by decide +kernel
theorem dX0_isBorneByNone_19 : decode cX0_isBorneByNone 19 = .ok (.laload, 1) := by decide +kernel
theorem dX0_isBorneByNone_20 : decode cX0_isBorneByNone 20 = .ok (.aload_n 0, 1) := by decide +kernel
theorem dX0_isBorneByNone_21 : decode cX0_isBorneByNone 21 = .ok (.getfield 11, 3) := by decide +kernel
theorem dX0_isBorneByNone_24 : decode cX0_isBorneByNone 24 = .ok (.iload_n 2, 1) := by decide +kernel
theorem dX0_isBorneByNone_25 : decode cX0_isBorneByNone 25 = .ok (.iconst 4, 1) := by decide +kernel
theorem dX0_isBorneByNone_26 : decode cX0_isBorneByNone 26 = .ok (.imul, 1) := by decide +kernel
theorem dX0_isBorneByNone_27 : decode cX0_isBorneByNone 27 = .ok (.iload 4, 2) := by decide +kernel
theorem dX0_isBorneByNone_29 : decode cX0_isBorneByNone 29 = .ok (.iadd, 1) := by decide +kernel
theorem dX0_isBorneByNone_30 : decode cX0_isBorneByNone 30 = .ok (.laload, 1) := by decide +kernel
theorem dX0_isBorneByNone_31 : decode cX0_isBorneByNone 31 = .ok (.land, 1) := by decide +kernel
theorem dX0_isBorneByNone_32 : decode cX0_isBorneByNone 32 = .ok (.aload_n 0, 1) := by decide +kernel
theorem dX0_isBorneByNone_33 : decode cX0_isBorneByNone 33 = .ok (.getfield 11, 3) := by decide +kernel
theorem dX0_isBorneByNone_36 : decode cX0_isBorneByNone 36 = .ok (.iload_n 3, 1) := by decide +kernel
theorem dX0_isBorneByNone_37 : decode cX0_isBorneByNone 37 = .ok (.iconst 4, 1) := by decide +kernel
theorem dX0_isBorneByNone_38 : decode cX0_isBorneByNone 38 = .ok (.imul, 1) := by decide +kernel
theorem dX0_isBorneByNone_39 : decode cX0_isBorneByNone 39 = .ok (.iload 4, 2) := by decide +kernel
theorem dX0_isBorneByNone_41 : decode cX0_isBorneByNone 41 = .ok (.iadd, 1) := by decide +kernel
theorem dX0_isBorneByNone_42 : decode cX0_isBorneByNone 42 = .ok (.laload, 1) := by decide +kernel
theorem dX0_isBorneByNone_43 : decode cX0_isBorneByNone 43 = .ok (.land, 1) := by decide +kernel
theorem dX0_isBorneByNone_44 : decode cX0_isBorneByNone 44 = .ok (.lconst 0, 1) := by decide +kernel
theorem dX0_isBorneByNone_45 : decode cX0_isBorneByNone 45 = .ok (.lcmp, 1) := by decide +kernel
theorem dX0_isBorneByNone_46 : decode cX0_isBorneByNone 46 = .ok (.ifCond .eq 5, 3) := by decide +kernel
theorem dX0_isBorneByNone_49 : decode cX0_isBorneByNone 49 = .ok (.iconst 0, 1) := by decide +kernel
theorem dX0_isBorneByNone_50 : decode cX0_isBorneByNone 50 = .ok (.ireturn, 1) := by decide +kernel
theorem dX0_isBorneByNone_51 : decode cX0_isBorneByNone 51 = .ok (.iinc 4 1, 3) := by decide +kernel
theorem dX0_isBorneByNone_54 : decode cX0_isBorneByNone 54 = .ok (.goto (-51), 3) := by decide +kernel
theorem dX0_isBorneByNone_57 : decode cX0_isBorneByNone 57 = .ok (.iconst 1, 1) := by decide +kernel
theorem dX0_isBorneByNone_58 : decode cX0_isBorneByNone 58 = .ok (.ireturn, 1) := by decide +kernel
theorem dX1_init_0 : decode cX1_init 0 = .ok (.aload_n 0, 1) := by decide +kernel
theorem dX1_init_1 : decode cX1_init 1 = .ok (.invokespecial 3, 3) := by decide +kernel
theorem dX1_init_4 : decode cX1_init 4 = .ok (.aload_n 0, 1) := by decide +kernel
theorem dX1_init_5 : decode cX1_init 5 = .ok (.bipush 40, 2) := by decide +kernel
theorem dX1_init_7 : decode cX1_init 7 = .ok (.newarray .int, 2) := by decide +kernel
theorem dX1_init_9 : decode cX1_init 9 = .ok (.putfield 9, 3) := by decide +kernel
theorem dX1_init_12 : decode cX1_init 12 = .ok (.aload_n 0, 1) := by decide +kernel
theorem dX1_init_13 : decode cX1_init 13 = .ok (.bipush 40, 2) := by decide +kernel
theorem dX1_init_15 : decode cX1_init 15 = .ok (.newarray .int, 2) := by decide +kernel
theorem dX1_init_17 : decode cX1_init 17 = .ok (.putfield 15, 3) := by decide +kernel
theorem dX1_init_20 : decode cX1_init 20 = .ok (.aload_n 0, 1) := by decide +kernel
theorem dX1_init_21 : decode cX1_init 21 = .ok (.iconst 0, 1) := by decide +kernel
theorem dX1_init_22 : decode cX1_init 22 = .ok (.putfield 18, 3) := by decide +kernel
theorem dX1_init_25 : decode cX1_init 25 = .ok (.aload_n 0, 1) := by decide +kernel
theorem dX1_init_26 : decode cX1_init 26 = .ok (.iconst 0, 1) := by decide +kernel
theorem dX1_init_27 : decode cX1_init 27 = .ok (.putfield 22, 3) := by decide +kernel
theorem dX1_init_30 : decode cX1_init 30 = .ok (.return_, 1) := by decide +kernel
theorem dX1_note_0 : decode cX1_note 0 = .ok (.aload_n 0, 1) := by decide +kernel
theorem dX1_note_1 : decode cX1_note 1 = .ok (.getfield 9, 3) := by decide +kernel
theorem dX1_note_4 : decode cX1_note 4 = .ok (.aload_n 0, 1) := by decide +kernel
theorem dX1_note_5 : decode cX1_note 5 = .ok (.getfield 18, 3) := by decide +kernel
theorem dX1_note_8 : decode cX1_note 8 = .ok (.iload_n 1, 1) := by decide +kernel
theorem dX1_note_9 : decode cX1_note 9 = .ok (.iastore, 1) := by decide +kernel
theorem dX1_note_10 : decode cX1_note 10 = .ok (.aload_n 0, 1) := by decide +kernel
theorem dX1_note_11 : decode cX1_note 11 = .ok (.getfield 15, 3) := by decide +kernel
theorem dX1_note_14 : decode cX1_note 14 = .ok (.aload_n 0, 1) := by decide +kernel
theorem dX1_note_15 : decode cX1_note 15 = .ok (.getfield 18, 3) := by decide +kernel
theorem dX1_note_18 : decode cX1_note 18 = .ok (.iload_n 2, 1) := by decide +kernel
theorem dX1_note_19 : decode cX1_note 19 = .ok (.iastore, 1) := by decide +kernel
theorem dX1_note_20 : decode cX1_note 20 = .ok (.aload_n 0, 1) := by decide +kernel
theorem dX1_note_21 : decode cX1_note 21 = .ok (.aload_n 0, 1) := by decide +kernel
theorem dX1_note_22 : decode cX1_note 22 = .ok (.getfield 18, 3) := by decide +kernel
theorem dX1_note_25 : decode cX1_note 25 = .ok (.iconst 1, 1) := by decide +kernel
theorem dX1_note_26 : decode cX1_note 26 = .ok (.iadd, 1) := by decide +kernel
theorem dX1_note_27 : decode cX1_note 27 = .ok (.bipush 40, 2) := by decide +kernel
theorem dX1_note_29 : decode cX1_note 29 = .ok (.irem, 1) := by decide +kernel
theorem dX1_note_30 : decode cX1_note 30 = .ok (.putfield 18, 3) := by decide +kernel
theorem dX1_note_33 : decode cX1_note 33 = .ok (.aload_n 0, 1) := by decide +kernel
theorem dX1_note_34 : decode cX1_note 34 = .ok (.getfield 22, 3) := by decide +kernel
theorem dX1_note_37 : decode cX1_note 37 = .ok (.bipush 40, 2) := by decide +kernel
theorem dX1_note_39 : decode cX1_note 39 = .ok (.if_icmp .ge 13, 3) := by decide +kernel
theorem dX1_note_42 : decode cX1_note 42 = .ok (.aload_n 0, 1) := by decide +kernel
theorem dX1_note_43 : decode cX1_note 43 = .ok (.dup, 1) := by decide +kernel
theorem dX1_note_44 : decode cX1_note 44 = .ok (.getfield 22, 3) := by decide +kernel
theorem dX1_note_47 : decode cX1_note 47 = .ok (.iconst 1, 1) := by decide +kernel
theorem dX1_note_48 : decode cX1_note 48 = .ok (.iadd, 1) := by decide +kernel
theorem dX1_note_49 : decode cX1_note 49 = .ok (.putfield 22, 3) := by decide +kernel
theorem dX1_note_52 : decode cX1_note 52 = .ok (.return_, 1) := by decide +kernel
theorem dX1_takeBack_0 : decode cX1_takeBack 0 = .ok (.aload_n 0, 1) := by decide +kernel
theorem dX1_takeBack_1 : decode cX1_takeBack 1 = .ok (.getfield 22, 3) := by decide +kernel
theorem dX1_takeBack_4 : decode cX1_takeBack 4 = .ok (.ifCond .ne 4, 3) := by decide +kernel
theorem dX1_takeBack_7 : decode cX1_takeBack 7 = .ok (.return_, 1) := by decide +kernel
theorem dX1_takeBack_8 : decode cX1_takeBack 8 = .ok (.aload_n 0, 1) := by decide +kernel
theorem dX1_takeBack_9 : decode cX1_takeBack 9 = .ok (.aload_n 0, 1) := by decide +kernel
theorem dX1_takeBack_10 : decode cX1_takeBack 10 = .ok (.getfield 18, 3) := by decide +kernel
theorem dX1_takeBack_13 : decode cX1_takeBack 13 = .ok (.bipush 40, 2) := by decide +kernel
theorem dX1_takeBack_15 : decode cX1_takeBack 15 = .ok (.iadd, 1) := by decide +kernel
theorem dX1_takeBack_16 : decode cX1_takeBack 16 = .ok (.iconst 1, 1) := by decide +kernel
theorem dX1_takeBack_17 : decode cX1_takeBack 17 = .ok (.isub, 1) := by decide +kernel
theorem dX1_takeBack_18 : decode cX1_takeBack 18 = .ok (.bipush 40, 2) := by decide +kernel
theorem dX1_takeBack_20 : decode cX1_takeBack 20 = .ok (.irem, 1) := by decide +kernel
theorem dX1_takeBack_21 : decode cX1_takeBack 21 = .ok (.putfield 18, 3) := by decide +kernel
theorem dX1_takeBack_24 : decode cX1_takeBack 24 = .ok (.aload_n 0, 1) := by decide +kernel
theorem dX1_takeBack_25 : decode cX1_takeBack 25 = .ok (.dup, 1) := by decide +kernel
theorem dX1_takeBack_26 : decode cX1_takeBack 26 = .ok (.getfield 22, 3) := by decide +kernel
theorem dX1_takeBack_29 : decode cX1_takeBack 29 = .ok (.iconst 1, 1) := by decide +kernel
theorem dX1_takeBack_30 : decode cX1_takeBack 30 = .ok (.isub, 1) := by decide +kernel
theorem dX1_takeBack_31 : decode cX1_takeBack 31 = .ok (.putfield 22, 3) := by decide +kernel
theorem dX1_takeBack_34 : decode cX1_takeBack 34 = .ok (.aload_n 0, 1) := by decide +kernel
theorem dX1_takeBack_35 : decode cX1_takeBack 35 = .ok (.getfield 9, 3) := by decide +kernel
theorem dX1_takeBack_38 : decode cX1_takeBack 38 = .ok (.aload_n 0, 1) := by decide +kernel
theorem dX1_takeBack_39 : decode cX1_takeBack 39 = .ok (.getfield 18, 3) := by decide +kernel
theorem dX1_takeBack_42 : decode cX1_takeBack 42 = .ok (.iaload, 1) := by decide +kernel
theorem dX1_takeBack_43 : decode cX1_takeBack 43 = .ok (.istore_n 2, 1) := by decide +kernel
theorem dX1_takeBack_44 : decode cX1_takeBack 44 = .ok (.iload_n 2, 1) := by decide +kernel
theorem dX1_takeBack_45 : decode cX1_takeBack 45 = .ok (.ifCond .lt 21, 3) := by decide +kernel
theorem dX1_takeBack_48 : decode cX1_takeBack 48 = .ok (.iload_n 2, 1) := by decide +kernel
theorem dX1_takeBack_49 : decode cX1_takeBack 49 = .ok (.aload_n 1, 1) := by decide +kernel
theorem dX1_takeBack_50 : decode cX1_takeBack 50 = .ok (.arraylength, 1) := by decide +kernel
theorem dX1_takeBack_51 : decode cX1_takeBack 51 = .ok (.if_icmp .ge 15, 3) := by decide +kernel
theorem dX1_takeBack_54 : decode cX1_takeBack 54 = .ok (.aload_n 1, 1) := by decide +kernel
theorem dX1_takeBack_55 : decode cX1_takeBack 55 = .ok (.iload_n 2, 1) := by decide +kernel
theorem dX1_takeBack_56 : decode cX1_takeBack 56 = .ok (.aload_n 0, 1) := by decide +kernel
theorem dX1_takeBack_57 : decode cX1_takeBack 57 = .ok (.getfield 15, 3) := by decide +kernel
theorem dX1_takeBack_60 : decode cX1_takeBack 60 = .ok (.aload_n 0, 1) := by decide +kernel
theorem dX1_takeBack_61 : decode cX1_takeBack 61 = .ok (.getfield 18, 3) := by decide +kernel
theorem dX1_takeBack_64 : decode cX1_takeBack 64 = .ok (.iaload, 1) := by decide +kernel
theorem dX1_takeBack_65 : decode cX1_takeBack 65 = .ok (.iastore, 1) := by decide +kernel
theorem dX1_takeBack_66 : decode cX1_takeBack 66 = .ok (.return_, 1) := by decide +kernel
theorem dX2_init_0 : decode cX2_init 0 = .ok (.aload_n 0, 1) := by decide +kernel
theorem dX2_init_1 : decode cX2_init 1 = .ok (.invokespecial 1, 3) := by decide +kernel
theorem dX2_init_4 : decode cX2_init 4 = .ok (.aload_n 0, 1) := by decide +kernel
theorem dX2_init_5 : decode cX2_init 5 = .ok (.iconst 0, 1) := by decide +kernel
theorem dX2_init_6 : decode cX2_init 6 = .ok (.putfield 7, 3) := by decide +kernel
theorem dX2_init_9 : decode cX2_init 9 = .ok (.aload_n 0, 1) := by decide +kernel
theorem dX2_init_10 : decode cX2_init 10 = .ok (.iconst 0, 1) := by decide +kernel
theorem dX2_init_11 : decode cX2_init 11 = .ok (.putfield 13, 3) := by decide +kernel
theorem dX2_init_14 : decode cX2_init 14 = .ok (.aload_n 0, 1) := by decide +kernel
theorem dX2_init_15 : decode cX2_init 15 = .ok (.iconst 0, 1) := by decide +kernel
theorem dX2_init_16 : decode cX2_init 16 = .ok (.putfield 16, 3) := by decide +kernel
theorem dX2_init_19 : decode cX2_init 19 = .ok (.aload_n 0, 1) := by decide +kernel
theorem dX2_init_20 : decode cX2_init 20 = .ok (.iconst 0, 1) := by decide +kernel
theorem dX2_init_21 : decode cX2_init 21 = .ok (.putfield 19, 3) := by decide +kernel
theorem dX2_init_24 : decode cX2_init 24 = .ok (.aload_n 0, 1) := by decide +kernel
theorem dX2_init_25 : decode cX2_init 25 = .ok (.iconst 0, 1) := by decide +kernel
theorem dX2_init_26 : decode cX2_init 26 = .ok (.putfield 22, 3) := by decide +kernel
theorem dX2_init_29 : decode cX2_init 29 = .ok (.aload_n 0, 1) := by decide +kernel
theorem dX2_init_30 : decode cX2_init 30 = .ok (.iconst 0, 1) := by decide +kernel
theorem dX2_init_31 : decode cX2_init 31 = .ok (.putfield 25, 3) := by decide +kernel
theorem dX2_init_34 : decode cX2_init 34 = .ok (.aload_n 0, 1) := by decide +kernel
theorem dX2_init_35 : decode cX2_init 35 = .ok (.aload_n 1, 1) := by decide +kernel
theorem dX2_init_36 : decode cX2_init 36 = .ok (.putfield 29, 3) := by decide +kernel
theorem dX2_init_39 : decode cX2_init 39 = .ok (.return_, 1) := by decide +kernel
theorem dX2_run_0 : decode cX2_run 0 = .ok (.aload_n 0, 1) := by decide +kernel
theorem dX2_run_1 : decode cX2_run 1 = .ok (.iload_n 2, 1) := by decide +kernel
theorem dX2_run_2 : decode cX2_run 2 = .ok (.iload_n 2, 1) := by decide +kernel
theorem dX2_run_3 : decode cX2_run 3 = .ok (.ineg, 1) := by decide +kernel
theorem dX2_run_4 : decode cX2_run 4 = .ok (.iand, 1) := by decide +kernel
theorem dX2_run_5 : decode cX2_run 5 = .ok (.putfield 22, 3) := by decide +kernel
theorem dX2_run_8 : decode cX2_run 8 = .ok (.aload_n 0, 1) := by decide +kernel
theorem dX2_run_9 : decode cX2_run 9 = .ok (.iconst 0, 1) := by decide +kernel
theorem dX2_run_10 : decode cX2_run 10 = .ok (.putfield 25, 3) := by decide +kernel
theorem dX2_run_13 : decode cX2_run 13 = .ok (.aload_n 0, 1) := by decide +kernel
theorem dX2_run_14 : decode cX2_run 14 = .ok (.iconst 0, 1) := by decide +kernel
theorem dX2_run_15 : decode cX2_run 15 = .ok (.putfield 19, 3) := by decide +kernel
theorem dX2_run_18 : decode cX2_run 18 = .ok (.iconst 0, 1) := by decide +kernel
theorem dX2_run_19 : decode cX2_run 19 = .ok (.istore_n 3, 1) := by decide +kernel
theorem dX2_run_20 : decode cX2_run 20 = .ok (.iload_n 3, 1) := by decide +kernel
theorem dX2_run_21 : decode cX2_run 21 = .ok (.iload_n 1, 1) := by decide +kernel
theorem dX2_run_22 : decode cX2_run 22 = .ok (.if_icmp .ge 140, 3) := by decide +kernel
theorem dX2_run_25 : decode cX2_run 25 = .ok (.aload_n 0, 1) := by decide +kernel
theorem dX2_run_26 : decode cX2_run 26 = .ok (.getfield 25, 3) := by decide +kernel
theorem dX2_run_29 : decode cX2_run 29 = .ok (.ifCond .ne 133, 3) := by decide +kernel
theorem dX2_run_32 : decode cX2_run 32 = .ok (.aload_n 0, 1) := by decide +kernel
theorem dX2_run_33 : decode cX2_run 33 = .ok (.aload_n 0, 1) := by decide +kernel
theorem dX2_run_34 : decode cX2_run 34 = .ok (.getfield 29, 3) := by decide +kernel
theorem dX2_run_37 : decode cX2_run 37 = .ok (.aload_n 0, 1) := by decide +kernel
theorem dX2_run_38 : decode cX2_run 38 = .ok (.getfield 22, 3) := by decide +kernel
theorem dX2_run_41 : decode cX2_run 41 = .ok (.invokevirtual 33, 3) := by decide +kernel
theorem dX2_run_44 : decode cX2_run 44 = .ok (.putfield 7, 3) := by decide +kernel
theorem dX2_run_47 : decode cX2_run 47 = .ok (.aload_n 0, 1) := by decide +kernel
theorem dX2_run_48 : decode cX2_run 48 = .ok (.getfield 29, 3) := by decide +kernel
theorem dX2_run_51 : decode cX2_run 51 = .ok (.getfield 39, 3) := by decide +kernel
theorem dX2_run_54 : decode cX2_run 54 = .ok (.istore 4, 2) := by decide +kernel
theorem dX2_run_56 : decode cX2_run 56 = .ok (.aload_n 0, 1) := by decide +kernel
theorem dX2_run_57 : decode cX2_run 57 = .ok (.getfield 29, 3) := by decide +kernel
theorem dX2_run_60 : decode cX2_run 60 = .ok (.iload 4, 2) := by decide +kernel
theorem dX2_run_62 : decode cX2_run 62 = .ok (.iload_n 2, 1) := by decide +kernel
theorem dX2_run_63 : decode cX2_run 63 = .ok (.invokevirtual 42, 3) := by decide +kernel
theorem dX2_run_66 : decode cX2_run 66 = .ok (.istore 5, 2) := by decide +kernel
theorem dX2_run_68 : decode cX2_run 68 = .ok (.aload_n 0, 1) := by decide +kernel
theorem dX2_run_69 : decode cX2_run 69 = .ok (.getfield 29, 3) := by decide +kernel
theorem dX2_run_72 : decode cX2_run 72 = .ok (.iload 4, 2) := by decide +kernel
theorem dX2_run_74 : decode cX2_run 74 = .ok (.iload 5, 2) := by decide +kernel
theorem dX2_run_76 : decode cX2_run 76 = .ok (.invokevirtual 46, 3) := by decide +kernel
theorem dX2_run_79 : decode cX2_run 79 = .ok (.istore 6, 2) := by decide +kernel
theorem dX2_run_81 : decode cX2_run 81 = .ok (.iload_n 3, 1) := by decide +kernel
theorem dX2_run_82 : decode cX2_run 82 = .ok (.ifCond .eq 12, 3) := by decide +kernel
theorem dX2_run_85 : decode cX2_run 85 = .ok (.iload 6, 2) := by decide +kernel
theorem dX2_run_87 : decode cX2_run 87 = .ok (.aload_n 0, 1) := by decide +kernel
theorem dX2_run_88 : decode cX2_run 88 = .ok (.getfield 13, 3) := by decide +kernel
theorem dX2_run_91 : decode cX2_run 91 = .ok (.if_icmp .ge 15, 3) := by decide +kernel
theorem dX2_run_94 : decode cX2_run 94 = .ok (.aload_n 0, 1) := by decide +kernel
theorem dX2_run_95 : decode cX2_run 95 = .ok (.iload 6, 2) := by decide +kernel
theorem dX2_run_97 : decode cX2_run 97 = .ok (.putfield 13, 3) := by decide +kernel
theorem dX2_run_100 : decode cX2_run 100 = .ok (.aload_n 0, 1) := by decide +kernel
theorem dX2_run_101 : decode cX2_run 101 = .ok (.iload 4, 2) := by decide +kernel
theorem dX2_run_103 : decode cX2_run 103 = .ok (.putfield 16, 3) := by decide +kernel
theorem dX2_run_106 : decode cX2_run 106 = .ok (.aload_n 0, 1) := by decide +kernel
theorem dX2_run_107 : decode cX2_run 107 = .ok (.dup, 1) := by decide +kernel
theorem dX2_run_108 : decode cX2_run 108 = .ok (.getfield 19, 3) := by decide +kernel
theorem dX2_run_111 : decode cX2_run 111 = .ok (.iconst 1, 1) := by decide +kernel
theorem dX2_run_112 : decode cX2_run 112 = .ok (.iadd, 1) := by decide +kernel
theorem dX2_run_113 : decode cX2_run 113 = .ok (.putfield 19, 3) := by decide +kernel
theorem dX2_run_116 : decode cX2_run 116 = .ok (.aload_n 0, 1) := by decide +kernel
theorem dX2_run_117 : decode cX2_run 117 = .ok (.aload_n 0, 1) := by decide +kernel
theorem dX2_run_118 : decode cX2_run 118 = .ok (.getfield 13, 3) := by decide +kernel
theorem dX2_run_121 : decode cX2_run 121 = .ok (.aload_n 0, 1) := by decide +kernel
theorem dX2_run_122 : decode cX2_run 122 = .ok (.getfield 7, 3) := by decide +kernel
theorem dX2_run_125 : decode cX2_run 125 = .ok (.if_icmp .ne 7, 3) := by decide +kernel
theorem dX2_run_128 : decode cX2_run 128 = .ok (.iconst 1, 1) := by decide +kernel
theorem dX2_run_129 : decode cX2_run 129 = .ok (.goto 4, 3) := by decide +kernel
theorem dX2_run_132 : decode cX2_run 132 = .ok (.iconst 0, 1) := by decide +kernel
theorem dX2_run_133 : decode cX2_run 133 = .ok (.putfield 25, 3) := by decide +kernel
theorem dX2_run_136 : decode cX2_run 136 = .ok (.aload_n 0, 1) := by decide +kernel
theorem dX2_run_137 : decode cX2_run 137 = .ok (.getfield 25, 3) := by decide +kernel
theorem dX2_run_140 : decode cX2_run 140 = .ok (.ifCond .ne 16, 3) := by decide +kernel
theorem dX2_run_143 : decode cX2_run 143 = .ok (.aload_n 0, 1) := by decide +kernel
theorem dX2_run_144 : decode cX2_run 144 = .ok (.dup, 1) := by decide +kernel
theorem dX2_run_145 : decode cX2_run 145 = .ok (.getfield 22, 3) := by decide +kernel
theorem dX2_run_148 : decode cX2_run 148 = .ok (.iconst 1, 1) := by decide +kernel
theorem dX2_run_149 : decode cX2_run 149 = .ok (.iload 5, 2) := by decide +kernel
theorem dX2_run_151 : decode cX2_run 151 = .ok (.ishl, 1) := by decide +kernel
theorem dX2_run_152 : decode cX2_run 152 = .ok (.ior, 1) := by decide +kernel
theorem dX2_run_153 : decode cX2_run 153 = .ok (.putfield 22, 3) := by decide +kernel
theorem dX2_run_156 : decode cX2_run 156 = .ok (.iinc 3 1, 3) := by decide +kernel
theorem dX2_run_159 : decode cX2_run 159 = .ok (.goto (-139), 3) := by decide +kernel
theorem dX2_run_162 : decode cX2_run 162 = .ok (.return_, 1) := by decide +kernel
theorem dX2_answer_0 : decode cX2_answer 0 = .ok (.iload_n 1, 1) := by decide +kernel
theorem dX2_answer_1 : decode cX2_answer 1 = .ok (.tableswitch 63 0 4 #[35, 40, 45, 50, 55], 35) := by decide +kernel
theorem dX2_answer_36 : decode cX2_answer 36 = .ok (.aload_n 0, 1) := by decide +kernel
theorem dX2_answer_37 : decode cX2_answer 37 = .ok (.getfield 7, 3) := by decide +kernel
theorem dX2_answer_40 : decode cX2_answer 40 = .ok (.ireturn, 1) := by decide +kernel
theorem dX2_answer_41 : decode cX2_answer 41 = .ok (.aload_n 0, 1) := by decide +kernel
theorem dX2_answer_42 : decode cX2_answer 42 = .ok (.getfield 13, 3) := by decide +kernel
theorem dX2_answer_45 : decode cX2_answer 45 = .ok (.ireturn, 1) := by decide +kernel
theorem dX2_answer_46 : decode cX2_answer 46 = .ok (.aload_n 0, 1) := by decide +kernel
theorem dX2_answer_47 : decode cX2_answer 47 = .ok (.getfield 16, 3) := by decide +kernel
theorem dX2_answer_50 : decode cX2_answer 50 = .ok (.ireturn, 1) := by decide +kernel
theorem dX2_answer_51 : decode cX2_answer 51 = .ok (.aload_n 0, 1) := by decide +kernel
theorem dX2_answer_52 : decode cX2_answer 52 = .ok (.getfield 19, 3) := by decide +kernel
theorem dX2_answer_55 : decode cX2_answer 55 = .ok (.ireturn, 1) := by decide +kernel
theorem dX2_answer_56 : decode cX2_answer 56 = .ok (.aload_n 0, 1) := by decide +kernel
theorem dX2_answer_57 : decode cX2_answer 57 = .ok (.getfield 22, 3) := by decide +kernel
theorem dX2_answer_60 : decode cX2_answer 60 = .ok (.invokestatic 49, 3) := by decide +kernel
theorem dX2_answer_63 : decode cX2_answer 63 = .ok (.ireturn, 1) := by decide +kernel
theorem dX2_answer_64 : decode cX2_answer 64 = .ok (.aload_n 0, 1) := by decide +kernel
theorem dX2_answer_65 : decode cX2_answer 65 = .ok (.getfield 25, 3) := by decide +kernel
theorem dX2_answer_68 : decode cX2_answer 68 = .ok (.ifCond .eq 7, 3) := by decide +kernel
theorem dX2_answer_71 : decode cX2_answer 71 = .ok (.iconst 1, 1) := by decide +kernel
theorem dX2_answer_72 : decode cX2_answer 72 = .ok (.goto 4, 3) := by decide +kernel
theorem dX2_answer_75 : decode cX2_answer 75 = .ok (.iconst 0, 1) := by decide +kernel
theorem dX2_answer_76 : decode cX2_answer 76 = .ok (.ireturn, 1) := by decide +kernel
theorem dX3_init_0 : decode cX3_init 0 = .ok (.aload_n 0, 1) := by decide +kernel
theorem dX3_init_1 : decode cX3_init 1 = .ok (.invokespecial 3, 3) := by decide +kernel
theorem dX3_init_4 : decode cX3_init 4 = .ok (.aload_n 0, 1) := by decide +kernel
theorem dX3_init_5 : decode cX3_init 5 = .ok (.sipush 4096, 3) := by decide +kernel
theorem dX3_init_8 : decode cX3_init 8 = .ok (.newarray .int, 2) := by decide +kernel
theorem dX3_init_10 : decode cX3_init 10 = .ok (.putfield 9, 3) := by decide +kernel
theorem dX3_init_13 : decode cX3_init 13 = .ok (.aload_n 0, 1) := by decide +kernel
theorem dX3_init_14 : decode cX3_init 14 = .ok (.iconst 1, 1) := by decide +kernel
theorem dX3_init_15 : decode cX3_init 15 = .ok (.putfield 15, 3) := by decide +kernel
theorem dX3_init_18 : decode cX3_init 18 = .ok (.aload_n 0, 1) := by decide +kernel
theorem dX3_init_19 : decode cX3_init 19 = .ok (.bipush (-9), 2) := by decide +kernel
theorem dX3_init_21 : decode cX3_init 21 = .ok (.putfield 19, 3) := by decide +kernel
theorem dX3_init_24 : decode cX3_init 24 = .ok (.aload_n 0, 1) := by decide +kernel
theorem dX3_init_25 : decode cX3_init 25 = .ok (.aload_n 1, 1) := by decide +kernel
theorem dX3_init_26 : decode cX3_init 26 = .ok (.putfield 23, 3) := by decide +kernel
theorem dX3_init_29 : decode cX3_init 29 = .ok (.aload_n 0, 1) := by decide +kernel
theorem dX3_init_30 : decode cX3_init 30 = .ok (.new 27, 3) := by decide +kernel
theorem dX3_init_33 : decode cX3_init 33 = .ok (.dup, 1) := by decide +kernel
theorem dX3_init_34 : decode cX3_init 34 = .ok (.aload_n 1, 1) := by decide +kernel
theorem dX3_init_35 : decode cX3_init 35 = .ok (.invokespecial 29, 3) := by decide +kernel
theorem dX3_init_38 : decode cX3_init 38 = .ok (.putfield 32, 3) := by decide +kernel
theorem dX3_init_41 : decode cX3_init 41 = .ok (.return_, 1) := by decide +kernel
theorem dX3_forget_0 : decode cX3_forget 0 = .ok (.aload_n 0, 1) := by decide +kernel
theorem dX3_forget_1 : decode cX3_forget 1 = .ok (.iconst 1, 1) := by decide +kernel
theorem dX3_forget_2 : decode cX3_forget 2 = .ok (.putfield 15, 3) := by decide +kernel
theorem dX3_forget_5 : decode cX3_forget 5 = .ok (.return_, 1) := by decide +kernel
theorem dX3_of_0 : decode cX3_of 0 = .ok (.iload_n 1, 1) := by decide +kernel
theorem dX3_of_1 : decode cX3_of 1 = .ok (.ifCond .lt 20, 3) := by decide +kernel
theorem dX3_of_4 : decode cX3_of 4 = .ok (.iload_n 1, 1) := by decide +kernel
theorem dX3_of_5 : decode cX3_of 5 = .ok (.sipush 256, 3) := by decide +kernel
theorem dX3_of_8 : decode cX3_of 8 = .ok (.if_icmp .ge 13, 3) := by decide +kernel
theorem dX3_of_11 : decode cX3_of 11 = .ok (.iload_n 2, 1) := by decide +kernel
theorem dX3_of_12 : decode cX3_of 12 = .ok (.ifCond .lt 9, 3) := by decide +kernel
theorem dX3_of_15 : decode cX3_of 15 = .ok (.iload_n 2, 1) := by decide +kernel
theorem dX3_of_16 : decode cX3_of 16 = .ok (.bipush 16, 2) := by decide +kernel
theorem dX3_of_18 : decode cX3_of 18 = .ok (.if_icmp .lt 6, 3) := by decide +kernel
theorem dX3_of_21 : decode cX3_of 21 = .ok (.bipush (-9), 2) := by decide +kernel
theorem dX3_of_23 : decode cX3_of 23 = .ok (.ireturn, 1) := by decide +kernel
theorem dX3_of_24 : decode cX3_of 24 = .ok (.iload_n 1, 1) := by decide +kernel
theorem dX3_of_25 : decode cX3_of 25 = .ok (.bipush 16, 2) := by decide +kernel
theorem dX3_of_27 : decode cX3_of 27 = .ok (.imul, 1) := by decide +kernel
theorem dX3_of_28 : decode cX3_of 28 = .ok (.iload_n 2, 1) := by decide +kernel
theorem dX3_of_29 : decode cX3_of 29 = .ok (.iadd, 1) := by decide +kernel
theorem dX3_of_30 : decode cX3_of 30 = .ok (.istore_n 3, 1) := by decide +kernel
theorem dX3_of_31 : decode cX3_of 31 = .ok (.aload_n 0, 1) := by decide +kernel
theorem dX3_of_32 : decode cX3_of 32 = .ok (.getfield 15, 3) := by decide +kernel
theorem dX3_of_35 : decode cX3_of 35 = .ok (.ifCond .eq 16, 3) := by decide +kernel
theorem dX3_of_38 : decode cX3_of 38 = .ok (.aload_n 0, 1) := by decide +kernel
theorem dX3_of_39 : decode cX3_of 39 = .ok (.getfield 9, 3) := by decide +kernel
theorem dX3_of_42 : decode cX3_of 42 = .ok (.iconst (-1), 1) := by decide +kernel
theorem dX3_of_43 : decode cX3_of 43 = .ok (.invokestatic 36, 3) := by decide +kernel
theorem dX3_of_46 : decode cX3_of 46 = .ok (.aload_n 0, 1) := by decide +kernel
theorem dX3_of_47 : decode cX3_of 47 = .ok (.iconst 0, 1) := by decide +kernel
theorem dX3_of_48 : decode cX3_of 48 = .ok (.putfield 15, 3) := by decide +kernel
theorem dX3_of_51 : decode cX3_of 51 = .ok (.aload_n 0, 1) := by decide +kernel
theorem dX3_of_52 : decode cX3_of 52 = .ok (.getfield 9, 3) := by decide +kernel
theorem dX3_of_55 : decode cX3_of 55 = .ok (.iload_n 3, 1) := by decide +kernel
theorem dX3_of_56 : decode cX3_of 56 = .ok (.iaload, 1) := by decide +kernel
theorem dX3_of_57 : decode cX3_of 57 = .ok (.iconst (-1), 1) := by decide +kernel
theorem dX3_of_58 : decode cX3_of 58 = .ok (.if_icmp .ne 34, 3) := by decide +kernel
theorem dX3_of_61 : decode cX3_of 61 = .ok (.aload_n 0, 1) := by decide +kernel
theorem dX3_of_62 : decode cX3_of 62 = .ok (.getfield 32, 3) := by decide +kernel
theorem dX3_of_65 : decode cX3_of 65 = .ok (.iload_n 1, 1) := by decide +kernel
theorem dX3_of_66 : decode cX3_of 66 = .ok (.iload_n 2, 1) := by decide +kernel
theorem dX3_of_67 : decode cX3_of 67 = .ok (.invokevirtual 42, 3) := by decide +kernel
theorem dX3_of_70 : decode cX3_of 70 = .ok (.aload_n 0, 1) := by decide +kernel
theorem dX3_of_71 : decode cX3_of 71 = .ok (.getfield 9, 3) := by decide +kernel
theorem dX3_of_74 : decode cX3_of 74 = .ok (.iload_n 3, 1) := by decide +kernel
theorem dX3_of_75 : decode cX3_of 75 = .ok (.aload_n 0, 1) := by decide +kernel
theorem dX3_of_76 : decode cX3_of 76 = .ok (.getfield 23, 3) := by decide +kernel
theorem dX3_of_79 : decode cX3_of 79 = .ok (.iload_n 1, 1) := by decide +kernel
theorem dX3_of_80 : decode cX3_of 80 = .ok (.invokevirtual 46, 3) := by decide +kernel
theorem dX3_of_83 : decode cX3_of 83 = .ok (.aload_n 0, 1) := by decide +kernel
theorem dX3_of_84 : decode cX3_of 84 = .ok (.getfield 32, 3) := by decide +kernel
theorem dX3_of_87 : decode cX3_of 87 = .ok (.invokevirtual 52, 3) := by decide +kernel
theorem dX3_of_90 : decode cX3_of 90 = .ok (.iadd, 1) := by decide +kernel
theorem dX3_of_91 : decode cX3_of 91 = .ok (.iastore, 1) := by decide +kernel
theorem dX3_of_92 : decode cX3_of 92 = .ok (.aload_n 0, 1) := by decide +kernel
theorem dX3_of_93 : decode cX3_of 93 = .ok (.getfield 9, 3) := by decide +kernel
theorem dX3_of_96 : decode cX3_of 96 = .ok (.iload_n 3, 1) := by decide +kernel
theorem dX3_of_97 : decode cX3_of 97 = .ok (.iaload, 1) := by decide +kernel
theorem dX3_of_98 : decode cX3_of 98 = .ok (.ireturn, 1) := by decide +kernel
theorem dX3_worstWorld_0 : decode cX3_worstWorld 0 = .ok (.bipush (-9), 2) := by decide +kernel
theorem dX3_worstWorld_2 : decode cX3_worstWorld 2 = .ok (.istore_n 3, 1) := by decide +kernel
theorem dX3_worstWorld_3 : decode cX3_worstWorld 3 = .ok (.bipush (-9), 2) := by decide +kernel
theorem dX3_worstWorld_5 : decode cX3_worstWorld 5 = .ok (.istore 4, 2) := by decide +kernel
theorem dX3_worstWorld_7 : decode cX3_worstWorld 7 = .ok (.iconst 0, 1) := by decide +kernel
theorem dX3_worstWorld_8 : decode cX3_worstWorld 8 = .ok (.istore 5, 2) := by decide +kernel
theorem dX3_worstWorld_10 : decode cX3_worstWorld 10 = .ok (.iload 5, 2) := by decide +kernel
theorem dX3_worstWorld_12 : decode cX3_worstWorld 12 = .ok (.bipush 16, 2) := by decide +kernel
theorem dX3_worstWorld_14 : decode cX3_worstWorld 14 = .ok (.if_icmp .ge 44, 3) := by decide +kernel
theorem dX3_worstWorld_17 : decode cX3_worstWorld 17 = .ok (.iload_n 2, 1) := by decide +kernel
theorem dX3_worstWorld_18 : decode cX3_worstWorld 18 = .ok (.iload 5, 2) := by decide +kernel
theorem dX3_worstWorld_20 : decode cX3_worstWorld 20 = .ok (.ishr, 1) := by decide +kernel
theorem dX3_worstWorld_21 : decode cX3_worstWorld 21 = .ok (.iconst 1, 1) := by decide +kernel
theorem dX3_worstWorld_22 : decode cX3_worstWorld 22 = .ok (.iand, 1) := by decide +kernel
theorem dX3_worstWorld_23 : decode cX3_worstWorld 23 = .ok (.ifCond .ne 6, 3) := by decide +kernel
theorem dX3_worstWorld_26 : decode cX3_worstWorld 26 = .ok (.goto 26, 3) := by decide +kernel
theorem dX3_worstWorld_29 : decode cX3_worstWorld 29 = .ok (.aload_n 0, 1) := by decide +kernel
theorem dX3_worstWorld_30 : decode cX3_worstWorld 30 = .ok (.iload_n 1, 1) := by decide +kernel
theorem dX3_worstWorld_31 : decode cX3_worstWorld 31 = .ok (.iload 5, 2) := by decide +kernel
theorem dX3_worstWorld_33 : decode cX3_worstWorld 33 = .ok (.invokevirtual 56, 3) := by decide +kernel
theorem dX3_worstWorld_36 : decode cX3_worstWorld 36 = .ok (.istore 6, 2) := by decide +kernel
theorem dX3_worstWorld_38 : decode cX3_worstWorld 38 = .ok (.iload 6, 2) := by decide +kernel
theorem dX3_worstWorld_40 : decode cX3_worstWorld 40 = .ok (.iload 4, 2) := by decide +kernel
theorem dX3_worstWorld_42 : decode cX3_worstWorld 42 = .ok (.if_icmp .le 10, 3) := by decide +kernel
theorem dX3_worstWorld_45 : decode cX3_worstWorld 45 = .ok (.iload 5, 2) := by decide +kernel
theorem dX3_worstWorld_47 : decode cX3_worstWorld 47 = .ok (.istore_n 3, 1) := by decide +kernel
theorem dX3_worstWorld_48 : decode cX3_worstWorld 48 = .ok (.iload 6, 2) := by decide +kernel
theorem dX3_worstWorld_50 : decode cX3_worstWorld 50 = .ok (.istore 4, 2) := by decide +kernel
theorem dX3_worstWorld_52 : decode cX3_worstWorld 52 = .ok (.iinc 5 1, 3) := by decide +kernel
theorem dX3_worstWorld_55 : decode cX3_worstWorld 55 = .ok (.goto (-45), 3) := by decide +kernel
theorem dX3_worstWorld_58 : decode cX3_worstWorld 58 = .ok (.iload_n 3, 1) := by decide +kernel
theorem dX3_worstWorld_59 : decode cX3_worstWorld 59 = .ok (.ireturn, 1) := by decide +kernel
theorem dX3_worstOver_0 : decode cX3_worstOver 0 = .ok (.aload_n 0, 1) := by decide +kernel
theorem dX3_worstOver_1 : decode cX3_worstOver 1 = .ok (.iload_n 1, 1) := by decide +kernel
theorem dX3_worstOver_2 : decode cX3_worstOver 2 = .ok (.aload_n 0, 1) := by decide +kernel
theorem dX3_worstOver_3 : decode cX3_worstOver 3 = .ok (.iload_n 1, 1) := by decide +kernel
theorem dX3_worstOver_4 : decode cX3_worstOver 4 = .ok (.iload_n 2, 1) := by decide +kernel
theorem dX3_worstOver_5 : decode cX3_worstOver 5 = .ok (.invokevirtual 60, 3) := by decide +kernel
theorem dX3_worstOver_8 : decode cX3_worstOver 8 = .ok (.invokevirtual 56, 3) := by decide +kernel
theorem dX3_worstOver_11 : decode cX3_worstOver 11 = .ok (.ireturn, 1) := by decide +kernel
theorem dX3_bestOver_0 : decode cX3_bestOver 0 = .ok (.aload_n 0, 1) := by decide +kernel
theorem dX3_bestOver_1 : decode cX3_bestOver 1 = .ok (.bipush (-9), 2) := by decide +kernel
theorem dX3_bestOver_3 : decode cX3_bestOver 3 = .ok (.putfield 19, 3) := by decide +kernel
theorem dX3_bestOver_6 : decode cX3_bestOver 6 = .ok (.bipush (-9), 2) := by decide +kernel
theorem dX3_bestOver_8 : decode cX3_bestOver 8 = .ok (.istore_n 2, 1) := by decide +kernel
theorem dX3_bestOver_9 : decode cX3_bestOver 9 = .ok (.bipush (-9), 2) := by decide +kernel
theorem dX3_bestOver_11 : decode cX3_bestOver 11 = .ok (.istore_n 3, 1) := by decide +kernel
theorem dX3_bestOver_12 : decode cX3_bestOver 12 = .ok (.iconst 0, 1) := by decide +kernel
theorem dX3_bestOver_13 : decode cX3_bestOver 13 = .ok (.istore 4, 2) := by decide +kernel
theorem dX3_bestOver_15 : decode cX3_bestOver 15 = .ok (.iload 4, 2) := by decide +kernel
theorem dX3_bestOver_17 : decode cX3_bestOver 17 = .ok (.sipush 256, 3) := by decide +kernel
theorem dX3_bestOver_20 : decode cX3_bestOver 20 = .ok (.if_icmp .ge 110, 3) := by decide +kernel
theorem dX3_bestOver_23 : decode cX3_bestOver 23 = .ok (.iload_n 1, 1) := by decide +kernel
theorem dX3_bestOver_24 : decode cX3_bestOver 24 = .ok (.ifCond .eq 106, 3) := by decide +kernel
theorem dX3_bestOver_27 : decode cX3_bestOver 27 = .ok (.aload_n 0, 1) := by decide +kernel
theorem dX3_bestOver_28 : decode cX3_bestOver 28 = .ok (.getfield 23, 3) := by decide +kernel
theorem dX3_bestOver_31 : decode cX3_bestOver 31 = .ok (.iload 4, 2) := by decide +kernel
theorem dX3_bestOver_33 : decode cX3_bestOver 33 = .ok (.invokevirtual 63, 3) := by decide +kernel
theorem dX3_bestOver_36 : decode cX3_bestOver 36 = .ok (.ifCond .ne 6, 3) := by decide +kernel
theorem dX3_bestOver_39 : decode cX3_bestOver 39 = .ok (.goto 85, 3) := by decide +kernel
theorem dX3_bestOver_42 : decode cX3_bestOver 42 = .ok (.aload_n 0, 1) := by decide +kernel
theorem dX3_bestOver_43 : decode cX3_bestOver 43 = .ok (.getfield 19, 3) := by decide +kernel
theorem dX3_bestOver_46 : decode cX3_bestOver 46 = .ok (.bipush (-9), 2) := by decide +kernel
theorem dX3_bestOver_48 : decode cX3_bestOver 48 = .ok (.if_icmp .eq 30, 3) := by decide +kernel
theorem dX3_bestOver_51 : decode cX3_bestOver 51 = .ok (.aload_n 0, 1) := by decide +kernel
theorem dX3_bestOver_52 : decode cX3_bestOver 52 = .ok (.getfield 23, 3) := by decide +kernel
theorem dX3_bestOver_55 : decode cX3_bestOver 55 = .ok (.iload 4, 2) := by decide +kernel
theorem dX3_bestOver_57 : decode cX3_bestOver 57 = .ok (.invokevirtual 46, 3) := by decide +kernel
theorem dX3_bestOver_60 : decode cX3_bestOver 60 = .ok (.iload_n 2, 1) := by decide +kernel
theorem dX3_bestOver_61 : decode cX3_bestOver 61 = .ok (.if_icmp .ge 63, 3) := by decide +kernel
theorem dX3_bestOver_64 : decode cX3_bestOver 64 = .ok (.aload_n 0, 1) := by decide +kernel
theorem dX3_bestOver_65 : decode cX3_bestOver 65 = .ok (.iload 4, 2) := by decide +kernel
theorem dX3_bestOver_67 : decode cX3_bestOver 67 = .ok (.iload_n 3, 1) := by decide +kernel
theorem dX3_bestOver_68 : decode cX3_bestOver 68 = .ok (.invokevirtual 56, 3) := by decide +kernel
theorem dX3_bestOver_71 : decode cX3_bestOver 71 = .ok (.iload_n 2, 1) := by decide +kernel
theorem dX3_bestOver_72 : decode cX3_bestOver 72 = .ok (.if_icmp .lt 6, 3) := by decide +kernel
theorem dX3_bestOver_75 : decode cX3_bestOver 75 = .ok (.goto 49, 3) := by decide +kernel
theorem dX3_bestOver_78 : decode cX3_bestOver 78 = .ok (.aload_n 0, 1) := by decide +kernel
theorem dX3_bestOver_79 : decode cX3_bestOver 79 = .ok (.iload 4, 2) := by decide +kernel
theorem dX3_bestOver_81 : decode cX3_bestOver 81 = .ok (.iload_n 1, 1) := by decide +kernel
theorem dX3_bestOver_82 : decode cX3_bestOver 82 = .ok (.invokevirtual 60, 3) := by decide +kernel
theorem dX3_bestOver_85 : decode cX3_bestOver 85 = .ok (.istore 5, 2) := by decide +kernel
theorem dX3_bestOver_87 : decode cX3_bestOver 87 = .ok (.aload_n 0, 1) := by decide +kernel
theorem dX3_bestOver_88 : decode cX3_bestOver 88 = .ok (.iload 4, 2) := by decide +kernel
theorem dX3_bestOver_90 : decode cX3_bestOver 90 = .ok (.iload 5, 2) := by decide +kernel
theorem dX3_bestOver_92 : decode cX3_bestOver 92 = .ok (.invokevirtual 56, 3) := by decide +kernel
theorem dX3_bestOver_95 : decode cX3_bestOver 95 = .ok (.istore 6, 2) := by decide +kernel
theorem dX3_bestOver_97 : decode cX3_bestOver 97 = .ok (.aload_n 0, 1) := by decide +kernel
theorem dX3_bestOver_98 : decode cX3_bestOver 98 = .ok (.getfield 19, 3) := by decide +kernel
theorem dX3_bestOver_101 : decode cX3_bestOver 101 = .ok (.bipush (-9), 2) := by decide +kernel
theorem dX3_bestOver_103 : decode cX3_bestOver 103 = .ok (.if_icmp .eq 9, 3) := by decide +kernel
theorem dX3_bestOver_106 : decode cX3_bestOver 106 = .ok (.iload 6, 2) := by decide +kernel
theorem dX3_bestOver_108 : decode cX3_bestOver 108 = .ok (.iload_n 2, 1) := by decide +kernel
theorem dX3_bestOver_109 : decode cX3_bestOver 109 = .ok (.if_icmp .ge 15, 3) := by decide +kernel
theorem dX3_bestOver_112 : decode cX3_bestOver 112 = .ok (.aload_n 0, 1) := by decide +kernel
theorem dX3_bestOver_113 : decode cX3_bestOver 113 = .ok (.iload 4, 2) := by decide +kernel
theorem dX3_bestOver_115 : decode cX3_bestOver 115 = .ok (.putfield 19, 3) := by decide +kernel
theorem dX3_bestOver_118 : decode cX3_bestOver 118 = .ok (.iload 6, 2) := by decide +kernel
theorem dX3_bestOver_120 : decode cX3_bestOver 120 = .ok (.istore_n 2, 1) := by decide +kernel
theorem dX3_bestOver_121 : decode cX3_bestOver 121 = .ok (.iload 5, 2) := by decide +kernel
theorem dX3_bestOver_123 : decode cX3_bestOver 123 = .ok (.istore_n 3, 1) := by decide +kernel
theorem dX3_bestOver_124 : decode cX3_bestOver 124 = .ok (.iinc 4 1, 3) := by decide +kernel
theorem dX3_bestOver_127 : decode cX3_bestOver 127 = .ok (.goto (-112), 3) := by decide +kernel
theorem dX3_bestOver_130 : decode cX3_bestOver 130 = .ok (.iload_n 2, 1) := by decide +kernel
theorem dX3_bestOver_131 : decode cX3_bestOver 131 = .ok (.ireturn, 1) := by decide +kernel
theorem dX4_init_0 : decode cX4_init 0 = .ok (.aload_n 0, 1) := by decide +kernel
theorem dX4_init_1 : decode cX4_init 1 = .ok (.invokespecial 3, 3) := by decide +kernel
theorem dX4_init_4 : decode cX4_init 4 = .ok (.aload_n 0, 1) := by decide +kernel
theorem dX4_init_5 : decode cX4_init 5 = .ok (.iconst 0, 1) := by decide +kernel
theorem dX4_init_6 : decode cX4_init 6 = .ok (.putfield 9, 3) := by decide +kernel
theorem dX4_init_9 : decode cX4_init 9 = .ok (.aload_n 0, 1) := by decide +kernel
theorem dX4_init_10 : decode cX4_init 10 = .ok (.iconst 4, 1) := by decide +kernel
theorem dX4_init_11 : decode cX4_init 11 = .ok (.newarray .int, 2) := by decide +kernel
theorem dX4_init_13 : decode cX4_init 13 = .ok (.putfield 15, 3) := by decide +kernel
theorem dX4_init_16 : decode cX4_init 16 = .ok (.aload_n 0, 1) := by decide +kernel
theorem dX4_init_17 : decode cX4_init 17 = .ok (.iconst 4, 1) := by decide +kernel
theorem dX4_init_18 : decode cX4_init 18 = .ok (.newarray .int, 2) := by decide +kernel
theorem dX4_init_20 : decode cX4_init 20 = .ok (.putfield 19, 3) := by decide +kernel
theorem dX4_init_23 : decode cX4_init 23 = .ok (.aload_n 0, 1) := by decide +kernel
theorem dX4_init_24 : decode cX4_init 24 = .ok (.iconst 0, 1) := by decide +kernel
theorem dX4_init_25 : decode cX4_init 25 = .ok (.putfield 22, 3) := by decide +kernel
theorem dX4_init_28 : decode cX4_init 28 = .ok (.aload_n 0, 1) := by decide +kernel
theorem dX4_init_29 : decode cX4_init 29 = .ok (.iconst 4, 1) := by decide +kernel
theorem dX4_init_30 : decode cX4_init 30 = .ok (.newarray .int, 2) := by decide +kernel
theorem dX4_init_32 : decode cX4_init 32 = .ok (.putfield 25, 3) := by decide +kernel
theorem dX4_init_35 : decode cX4_init 35 = .ok (.aload_n 0, 1) := by decide +kernel
theorem dX4_init_36 : decode cX4_init 36 = .ok (.iconst 4, 1) := by decide +kernel
theorem dX4_init_37 : decode cX4_init 37 = .ok (.newarray .int, 2) := by decide +kernel
theorem dX4_init_39 : decode cX4_init 39 = .ok (.putfield 28, 3) := by decide +kernel
theorem dX4_init_42 : decode cX4_init 42 = .ok (.aload_n 0, 1) := by decide +kernel
theorem dX4_init_43 : decode cX4_init 43 = .ok (.iconst 4, 1) := by decide +kernel
theorem dX4_init_44 : decode cX4_init 44 = .ok (.newarray .int, 2) := by decide +kernel
theorem dX4_init_46 : decode cX4_init 46 = .ok (.putfield 31, 3) := by decide +kernel
theorem dX4_init_49 : decode cX4_init 49 = .ok (.aload_n 0, 1) := by decide +kernel
theorem dX4_init_50 : decode cX4_init 50 = .ok (.bipush 16, 2) := by decide +kernel
theorem dX4_init_52 : decode cX4_init 52 = .ok (.newarray .int, 2) := by decide +kernel
theorem dX4_init_54 : decode cX4_init 54 = .ok (.putfield 34, 3) := by decide +kernel
theorem dX4_init_57 : decode cX4_init 57 = .ok (.aload_n 0, 1) := by decide +kernel
theorem dX4_init_58 : decode cX4_init 58 = .ok (.bipush 16, 2) := by decide +kernel
theorem dX4_init_60 : decode cX4_init 60 = .ok (.newarray .int, 2) := by decide +kernel
theorem dX4_init_62 : decode cX4_init 62 = .ok (.putfield 37, 3) := by decide +kernel
theorem dX4_init_65 : decode cX4_init 65 = .ok (.aload_n 0, 1) := by decide +kernel
theorem dX4_init_66 : decode cX4_init 66 = .ok (.iconst 4, 1) := by decide +kernel
theorem dX4_init_67 : decode cX4_init 67 = .ok (.newarray .int, 2) := by decide +kernel
theorem dX4_init_69 : decode cX4_init 69 = .ok (.putfield 40, 3) := by decide +kernel
theorem dX4_init_72 : decode cX4_init 72 = .ok (.aload_n 0, 1) := by decide +kernel
theorem dX4_init_73 : decode cX4_init 73 = .ok (.iconst 4, 1) := by decide +kernel
theorem dX4_init_74 : decode cX4_init 74 = .ok (.newarray .int, 2) := by decide +kernel
theorem dX4_init_76 : decode cX4_init 76 = .ok (.putfield 43, 3) := by decide +kernel
theorem dX4_init_79 : decode cX4_init 79 = .ok (.aload_n 0, 1) := by decide +kernel
theorem dX4_init_80 : decode cX4_init 80 = .ok (.aload_n 1, 1) := by decide +kernel
theorem dX4_init_81 : decode cX4_init 81 = .ok (.putfield 46, 3) := by decide +kernel
theorem dX4_init_84 : decode cX4_init 84 = .ok (.return_, 1) := by decide +kernel
theorem dX4_weigh_0 : decode cX4_weigh 0 = .ok (.aload_n 0, 1) := by decide +kernel
theorem dX4_weigh_1 : decode cX4_weigh 1 = .ok (.iconst 0, 1) := by decide +kernel
theorem dX4_weigh_2 : decode cX4_weigh 2 = .ok (.putfield 9, 3) := by decide +kernel
theorem dX4_weigh_5 : decode cX4_weigh 5 = .ok (.aload_n 0, 1) := by decide +kernel
theorem dX4_weigh_6 : decode cX4_weigh 6 = .ok (.iconst 0, 1) := by decide +kernel
theorem dX4_weigh_7 : decode cX4_weigh 7 = .ok (.putfield 22, 3) := by decide +kernel
theorem dX4_weigh_10 : decode cX4_weigh 10 = .ok (.aload_n 0, 1) := by decide +kernel
theorem dX4_weigh_11 : decode cX4_weigh 11 = .ok (.getfield 37, 3) := by decide +kernel
theorem dX4_weigh_14 : decode cX4_weigh 14 = .ok (.iconst 0, 1) := by decide +kernel
theorem dX4_weigh_15 : decode cX4_weigh 15 = .ok (.invokestatic 50, 3) := by decide +kernel
theorem dX4_weigh_18 : decode cX4_weigh 18 = .ok (.iconst 0, 1) := by decide +kernel
theorem dX4_weigh_19 : decode cX4_weigh 19 = .ok (.istore_n 3, 1) := by decide +kernel
theorem dX4_weigh_20 : decode cX4_weigh 20 = .ok (.iload_n 3, 1) := by decide +kernel
theorem dX4_weigh_21 : decode cX4_weigh 21 = .ok (.iconst 4, 1) := by decide +kernel
theorem dX4_weigh_22 : decode cX4_weigh 22 = .ok (.if_icmp .ge 120, 3) := by decide +kernel
theorem dX4_weigh_25 : decode cX4_weigh 25 = .ok (.aload_n 0, 1) := by decide +kernel
theorem dX4_weigh_26 : decode cX4_weigh 26 = .ok (.getfield 46, 3) := by decide +kernel
theorem dX4_weigh_29 : decode cX4_weigh 29 = .ok (.iload_n 3, 1) := by decide +kernel
theorem dX4_weigh_30 : decode cX4_weigh 30 = .ok (.iload_n 1, 1) := by decide +kernel
theorem dX4_weigh_31 : decode cX4_weigh 31 = .ok (.iload_n 2, 1) := by decide +kernel
theorem dX4_weigh_32 : decode cX4_weigh 32 = .ok (.invokevirtual 56, 3) := by decide +kernel
theorem dX4_weigh_35 : decode cX4_weigh 35 = .ok (.istore 4, 2) := by decide +kernel
theorem dX4_weigh_37 : decode cX4_weigh 37 = .ok (.iload 4, 2) := by decide +kernel
theorem dX4_weigh_39 : decode cX4_weigh 39 = .ok (.ifCond .le 37, 3) := by decide +kernel
theorem dX4_weigh_42 : decode cX4_weigh 42 = .ok (.aload_n 0, 1) := by decide +kernel
theorem dX4_weigh_43 : decode cX4_weigh 43 = .ok (.getfield 15, 3) := by decide +kernel
theorem dX4_weigh_46 : decode cX4_weigh 46 = .ok (.aload_n 0, 1) := by decide +kernel
theorem dX4_weigh_47 : decode cX4_weigh 47 = .ok (.getfield 9, 3) := by decide +kernel
theorem dX4_weigh_50 : decode cX4_weigh 50 = .ok (.iload_n 3, 1) := by decide +kernel
theorem dX4_weigh_51 : decode cX4_weigh 51 = .ok (.iastore, 1) := by decide +kernel
theorem dX4_weigh_52 : decode cX4_weigh 52 = .ok (.aload_n 0, 1) := by decide +kernel
theorem dX4_weigh_53 : decode cX4_weigh 53 = .ok (.getfield 19, 3) := by decide +kernel
theorem dX4_weigh_56 : decode cX4_weigh 56 = .ok (.aload_n 0, 1) := by decide +kernel
theorem dX4_weigh_57 : decode cX4_weigh 57 = .ok (.getfield 9, 3) := by decide +kernel
theorem dX4_weigh_60 : decode cX4_weigh 60 = .ok (.iload 4, 2) := by decide +kernel
theorem dX4_weigh_62 : decode cX4_weigh 62 = .ok (.iastore, 1) := by decide +kernel
theorem dX4_weigh_63 : decode cX4_weigh 63 = .ok (.aload_n 0, 1) := by decide +kernel
theorem dX4_weigh_64 : decode cX4_weigh 64 = .ok (.dup, 1) := by decide +kernel
theorem dX4_weigh_65 : decode cX4_weigh 65 = .ok (.getfield 9, 3) := by decide +kernel
theorem dX4_weigh_68 : decode cX4_weigh 68 = .ok (.iconst 1, 1) := by decide +kernel
theorem dX4_weigh_69 : decode cX4_weigh 69 = .ok (.iadd, 1) := by decide +kernel
theorem dX4_weigh_70 : decode cX4_weigh 70 = .ok (.putfield 9, 3) := by decide +kernel
theorem dX4_weigh_73 : decode cX4_weigh 73 = .ok (.goto 63, 3) := by decide +kernel
theorem dX4_weigh_76 : decode cX4_weigh 76 = .ok (.iload 4, 2) := by decide +kernel
theorem dX4_weigh_78 : decode cX4_weigh 78 = .ok (.ifCond .ge 58, 3) := by decide +kernel
theorem dX4_weigh_81 : decode cX4_weigh 81 = .ok (.aload_n 0, 1) := by decide +kernel
theorem dX4_weigh_82 : decode cX4_weigh 82 = .ok (.getfield 25, 3) := by decide +kernel
theorem dX4_weigh_85 : decode cX4_weigh 85 = .ok (.aload_n 0, 1) := by decide +kernel
theorem dX4_weigh_86 : decode cX4_weigh 86 = .ok (.getfield 22, 3) := by decide +kernel
theorem dX4_weigh_89 : decode cX4_weigh 89 = .ok (.iload_n 3, 1) := by decide +kernel
theorem dX4_weigh_90 : decode cX4_weigh 90 = .ok (.iastore, 1) := by decide +kernel
theorem dX4_weigh_91 : decode cX4_weigh 91 = .ok (.aload_n 0, 1) := by decide +kernel
theorem dX4_weigh_92 : decode cX4_weigh 92 = .ok (.getfield 28, 3) := by decide +kernel
theorem dX4_weigh_95 : decode cX4_weigh 95 = .ok (.aload_n 0, 1) := by decide +kernel
theorem dX4_weigh_96 : decode cX4_weigh 96 = .ok (.getfield 22, 3) := by decide +kernel
theorem dX4_weigh_99 : decode cX4_weigh 99 = .ok (.iload 4, 2) := by decide +kernel
theorem dX4_weigh_101 : decode cX4_weigh 101 = .ok (.ineg, 1) := by decide +kernel
theorem dX4_weigh_102 : decode cX4_weigh 102 = .ok (.iastore, 1) := by decide +kernel
theorem dX4_weigh_103 : decode cX4_weigh 103 = .ok (.aload_n 0, 1) := by decide +kernel
theorem dX4_weigh_104 : decode cX4_weigh 104 = .ok (.getfield 31, 3) := by decide +kernel
theorem dX4_weigh_107 : decode cX4_weigh 107 = .ok (.aload_n 0, 1) := by decide +kernel
theorem dX4_weigh_108 : decode cX4_weigh 108 = .ok (.getfield 22, 3) := by decide +kernel
theorem dX4_weigh_111 : decode cX4_weigh 111 = .ok (.aload_n 0, 1) := by decide +kernel
theorem dX4_weigh_112 : decode cX4_weigh 112 = .ok (.getfield 46, 3) := by decide +kernel
theorem dX4_weigh_115 : decode cX4_weigh 115 = .ok (.getfield 62, 3) := by decide +kernel
theorem dX4_weigh_118 : decode cX4_weigh 118 = .ok (.iload_n 3, 1) := by decide +kernel
theorem dX4_weigh_119 : decode cX4_weigh 119 = .ok (.bipush 6, 2) := by decide +kernel
theorem dX4_weigh_121 : decode cX4_weigh 121 = .ok (.imul, 1) := by decide +kernel
theorem dX4_weigh_122 : decode cX4_weigh 122 = .ok (.iconst 4, 1) := by decide +kernel
theorem dX4_weigh_123 : decode cX4_weigh 123 = .ok (.iadd, 1) := by decide +kernel
theorem dX4_weigh_124 : decode cX4_weigh 124 = .ok (.iaload, 1) := by decide +kernel
theorem dX4_weigh_125 : decode cX4_weigh 125 = .ok (.iastore, 1) := by decide +kernel
theorem dX4_weigh_126 : decode cX4_weigh 126 = .ok (.aload_n 0, 1) := by decide +kernel
theorem dX4_weigh_127 : decode cX4_weigh 127 = .ok (.dup, 1) := by decide +kernel
theorem dX4_weigh_128 : decode cX4_weigh 128 = .ok (.getfield 22, 3) := by decide +kernel
theorem dX4_weigh_131 : decode cX4_weigh 131 = .ok (.iconst 1, 1) := by decide +kernel
theorem dX4_weigh_132 : decode cX4_weigh 132 = .ok (.iadd, 1) := by decide +kernel
theorem dX4_weigh_133 : decode cX4_weigh 133 = .ok (.putfield 22, 3) := by decide +kernel
theorem dX4_weigh_136 : decode cX4_weigh 136 = .ok (.iinc 3 1, 3) := by decide +kernel
theorem dX4_weigh_139 : decode cX4_weigh 139 = .ok (.goto (-119), 3) := by decide +kernel
theorem dX4_weigh_142 : decode cX4_weigh 142 = .ok (.iconst 0, 1) := by decide +kernel
theorem dX4_weigh_143 : decode cX4_weigh 143 = .ok (.istore_n 3, 1) := by decide +kernel
theorem dX4_weigh_144 : decode cX4_weigh 144 = .ok (.iload_n 3, 1) := by decide +kernel
theorem dX4_weigh_145 : decode cX4_weigh 145 = .ok (.aload_n 0, 1) := by decide +kernel
theorem dX4_weigh_146 : decode cX4_weigh 146 = .ok (.getfield 9, 3) := by decide +kernel
theorem dX4_weigh_149 : decode cX4_weigh 149 = .ok (.if_icmp .ge 65, 3) := by decide +kernel
theorem dX4_weigh_152 : decode cX4_weigh 152 = .ok (.iconst 0, 1) := by decide +kernel
theorem dX4_weigh_153 : decode cX4_weigh 153 = .ok (.istore 4, 2) := by decide +kernel
theorem dX4_weigh_155 : decode cX4_weigh 155 = .ok (.iload 4, 2) := by decide +kernel
theorem dX4_weigh_157 : decode cX4_weigh 157 = .ok (.aload_n 0, 1) := by decide +kernel
theorem dX4_weigh_158 : decode cX4_weigh 158 = .ok (.getfield 22, 3) := by decide +kernel
theorem dX4_weigh_161 : decode cX4_weigh 161 = .ok (.if_icmp .ge 47, 3) := by decide +kernel
theorem dX4_weigh_164 : decode cX4_weigh 164 = .ok (.aload_n 0, 1) := by decide +kernel
theorem dX4_weigh_165 : decode cX4_weigh 165 = .ok (.getfield 34, 3) := by decide +kernel
theorem dX4_weigh_168 : decode cX4_weigh 168 = .ok (.iload_n 3, 1) := by decide +kernel
theorem dX4_weigh_169 : decode cX4_weigh 169 = .ok (.iconst 4, 1) := by decide +kernel
theorem dX4_weigh_170 : decode cX4_weigh 170 = .ok (.imul, 1) := by decide +kernel
theorem dX4_weigh_171 : decode cX4_weigh 171 = .ok (.iload 4, 2) := by decide +kernel
theorem dX4_weigh_173 : decode cX4_weigh 173 = .ok (.iadd, 1) := by decide +kernel
theorem dX4_weigh_174 : decode cX4_weigh 174 = .ok (.aload_n 0, 1) := by decide +kernel
theorem dX4_weigh_175 : decode cX4_weigh 175 = .ok (.getfield 46, 3) := by decide +kernel
theorem dX4_weigh_178 : decode cX4_weigh 178 = .ok (.getfield 62, 3) := by decide +kernel
theorem dX4_weigh_181 : decode cX4_weigh 181 = .ok (.bipush 24, 2) := by decide +kernel
theorem dX4_weigh_183 : decode cX4_weigh 183 = .ok (.aload_n 0, 1) := by decide +kernel
theorem dX4_weigh_184 : decode cX4_weigh 184 = .ok (.getfield 15, 3) := by decide +kernel
theorem dX4_weigh_187 : decode cX4_weigh 187 = .ok (.iload_n 3, 1) := by decide +kernel
theorem dX4_weigh_188 : decode cX4_weigh 188 = .ok (.iaload, 1) := by decide +kernel
theorem dX4_weigh_189 : decode cX4_weigh 189 = .ok (.iconst 4, 1) := by decide +kernel
theorem dX4_weigh_190 : decode cX4_weigh 190 = .ok (.imul, 1) := by decide +kernel
theorem dX4_weigh_191 : decode cX4_weigh 191 = .ok (.iadd, 1) := by decide +kernel
theorem dX4_weigh_192 : decode cX4_weigh 192 = .ok (.aload_n 0, 1) := by decide +kernel
theorem dX4_weigh_193 : decode cX4_weigh 193 = .ok (.getfield 25, 3) := by decide +kernel
theorem dX4_weigh_196 : decode cX4_weigh 196 = .ok (.iload 4, 2) := by decide +kernel
theorem dX4_weigh_198 : decode cX4_weigh 198 = .ok (.iaload, 1) := by decide +kernel
theorem dX4_weigh_199 : decode cX4_weigh 199 = .ok (.iadd, 1) := by decide +kernel
theorem dX4_weigh_200 : decode cX4_weigh 200 = .ok (.iaload, 1) := by decide +kernel
theorem dX4_weigh_201 : decode cX4_weigh 201 = .ok (.iastore, 1) := by decide +kernel
theorem dX4_weigh_202 : decode cX4_weigh 202 = .ok (.iinc 4 1, 3) := by decide +kernel
theorem dX4_weigh_205 : decode cX4_weigh 205 = .ok (.goto (-50), 3) := by decide +kernel
theorem dX4_weigh_208 : decode cX4_weigh 208 = .ok (.iinc 3 1, 3) := by decide +kernel
theorem dX4_weigh_211 : decode cX4_weigh 211 = .ok (.goto (-67), 3) := by decide +kernel
theorem dX4_weigh_214 : decode cX4_weigh 214 = .ok (.return_, 1) := by decide +kernel
theorem dX4_leastLater_0 : decode cX4_leastLater 0 = .ok (.iconst 0, 1) := by decide +kernel
theorem dX4_leastLater_1 : decode cX4_leastLater 1 = .ok (.istore_n 1, 1) := by decide +kernel
theorem dX4_leastLater_2 : decode cX4_leastLater 2 = .ok (.iconst 0, 1) := by decide +kernel
theorem dX4_leastLater_3 : decode cX4_leastLater 3 = .ok (.istore_n 2, 1) := by decide +kernel
theorem dX4_leastLater_4 : decode cX4_leastLater 4 = .ok (.iload_n 2, 1) := by decide +kernel
theorem dX4_leastLater_5 : decode cX4_leastLater 5 = .ok (.aload_n 0, 1) := by decide +kernel
theorem dX4_leastLater_6 : decode cX4_leastLater 6 = .ok (.getfield 22, 3) := by decide +kernel
theorem dX4_leastLater_9 : decode cX4_leastLater 9 = .ok (.if_icmp .ge 62, 3) := by decide +kernel
theorem dX4_leastLater_12 : decode cX4_leastLater 12 = .ok (.iconst 0, 1) := by decide +kernel
theorem dX4_leastLater_13 : decode cX4_leastLater 13 = .ok (.istore_n 3, 1) := by decide +kernel
theorem dX4_leastLater_14 : decode cX4_leastLater 14 = .ok (.iload_n 3, 1) := by decide +kernel
theorem dX4_leastLater_15 : decode cX4_leastLater 15 = .ok (.sipush 198, 3) := by decide +kernel
theorem dX4_leastLater_18 : decode cX4_leastLater 18 = .ok (.if_icmp .ge 47, 3) := by decide +kernel
theorem dX4_leastLater_21 : decode cX4_leastLater 21 = .ok (.aload_n 0, 1) := by decide +kernel
theorem dX4_leastLater_22 : decode cX4_leastLater 22 = .ok (.getfield 28, 3) := by decide +kernel
theorem dX4_leastLater_25 : decode cX4_leastLater 25 = .ok (.iload_n 2, 1) := by decide +kernel
theorem dX4_leastLater_26 : decode cX4_leastLater 26 = .ok (.iaload, 1) := by decide +kernel
theorem dX4_leastLater_27 : decode cX4_leastLater 27 = .ok (.ifCond .le 38, 3) := by decide +kernel
theorem dX4_leastLater_30 : decode cX4_leastLater 30 = .ok (.iconst 0, 1) := by decide +kernel
theorem dX4_leastLater_31 : decode cX4_leastLater 31 = .ok (.istore 4, 2) := by decide +kernel
theorem dX4_leastLater_33 : decode cX4_leastLater 33 = .ok (.iload 4, 2) := by decide +kernel
theorem dX4_leastLater_35 : decode cX4_leastLater 35 = .ok (.iload_n 2, 1) := by decide +kernel
theorem dX4_leastLater_36 : decode cX4_leastLater 36 = .ok (.if_icmp .gt 15, 3) := by decide +kernel
theorem dX4_leastLater_39 : decode cX4_leastLater 39 = .ok (.aload_n 0, 1) := by decide +kernel
theorem dX4_leastLater_40 : decode cX4_leastLater 40 = .ok (.iload 4, 2) := by decide +kernel
theorem dX4_leastLater_42 : decode cX4_leastLater 42 = .ok (.invokevirtual 65, 3) := by decide +kernel
theorem dX4_leastLater_45 : decode cX4_leastLater 45 = .ok (.iinc 4 1, 3) := by decide +kernel
theorem dX4_leastLater_48 : decode cX4_leastLater 48 = .ok (.goto (-15), 3) := by decide +kernel
theorem dX4_leastLater_51 : decode cX4_leastLater 51 = .ok (.iload_n 1, 1) := by decide +kernel
theorem dX4_leastLater_52 : decode cX4_leastLater 52 = .ok (.aload_n 0, 1) := by decide +kernel
theorem dX4_leastLater_53 : decode cX4_leastLater 53 = .ok (.iload_n 2, 1) := by decide +kernel
theorem dX4_leastLater_54 : decode cX4_leastLater 54 = .ok (.invokevirtual 69, 3) := by decide +kernel
theorem dX4_leastLater_57 : decode cX4_leastLater 57 = .ok (.iadd, 1) := by decide +kernel
theorem dX4_leastLater_58 : decode cX4_leastLater 58 = .ok (.istore_n 1, 1) := by decide +kernel
theorem dX4_leastLater_59 : decode cX4_leastLater 59 = .ok (.iinc 3 1, 3) := by decide +kernel
theorem dX4_leastLater_62 : decode cX4_leastLater 62 = .ok (.goto (-48), 3) := by decide +kernel
theorem dX4_leastLater_65 : decode cX4_leastLater 65 = .ok (.iinc 2 1, 3) := by decide +kernel
theorem dX4_leastLater_68 : decode cX4_leastLater 68 = .ok (.goto (-64), 3) := by decide +kernel
theorem dX4_leastLater_71 : decode cX4_leastLater 71 = .ok (.iload_n 1, 1) := by decide +kernel
theorem dX4_leastLater_72 : decode cX4_leastLater 72 = .ok (.ireturn, 1) := by decide +kernel
theorem dX4_findOwnWay_0 : decode cX4_findOwnWay 0 = .ok (.aload_n 0, 1) := by decide +kernel
theorem dX4_findOwnWay_1 : decode cX4_findOwnWay 1 = .ok (.getfield 40, 3) := by decide +kernel
theorem dX4_findOwnWay_4 : decode cX4_findOwnWay 4 = .ok (.iload_n 1, 1) := by decide +kernel
theorem dX4_findOwnWay_5 : decode cX4_findOwnWay 5 = .ok (.aload_n 0, 1) := by decide +kernel
theorem dX4_findOwnWay_6 : decode cX4_findOwnWay 6 = .ok (.getfield 46, 3) := by decide +kernel
theorem dX4_findOwnWay_9 : decode cX4_findOwnWay 9 = .ok (.getfield 62, 3) := by decide +kernel
theorem dX4_findOwnWay_12 : decode cX4_findOwnWay 12 = .ok (.bipush 41, 2) := by decide +kernel
theorem dX4_findOwnWay_14 : decode cX4_findOwnWay 14 = .ok (.iaload, 1) := by decide +kernel
theorem dX4_findOwnWay_15 : decode cX4_findOwnWay 15 = .ok (.iastore, 1) := by decide +kernel
theorem dX4_findOwnWay_16 : decode cX4_findOwnWay 16 = .ok (.aload_n 0, 1) := by decide +kernel
theorem dX4_findOwnWay_17 : decode cX4_findOwnWay 17 = .ok (.getfield 43, 3) := by decide +kernel
theorem dX4_findOwnWay_20 : decode cX4_findOwnWay 20 = .ok (.iload_n 1, 1) := by decide +kernel
theorem dX4_findOwnWay_21 : decode cX4_findOwnWay 21 = .ok (.bipush (-2), 2) := by decide +kernel
theorem dX4_findOwnWay_23 : decode cX4_findOwnWay 23 = .ok (.iastore, 1) := by decide +kernel
theorem dX4_findOwnWay_24 : decode cX4_findOwnWay 24 = .ok (.aload_n 0, 1) := by decide +kernel
theorem dX4_findOwnWay_25 : decode cX4_findOwnWay 25 = .ok (.getfield 46, 3) := by decide +kernel
theorem dX4_findOwnWay_28 : decode cX4_findOwnWay 28 = .ok (.getfield 62, 3) := by decide +kernel
theorem dX4_findOwnWay_31 : decode cX4_findOwnWay 31 = .ok (.aload_n 0, 1) := by decide +kernel
theorem dX4_findOwnWay_32 : decode cX4_findOwnWay 32 = .ok (.getfield 25, 3) := by decide +kernel
theorem dX4_findOwnWay_35 : decode cX4_findOwnWay 35 = .ok (.iload_n 1, 1) := by decide +kernel
theorem dX4_findOwnWay_36 : decode cX4_findOwnWay 36 = .ok (.iaload, 1) := by decide +kernel
theorem dX4_findOwnWay_37 : decode cX4_findOwnWay 37 = .ok (.bipush 6, 2) := by decide +kernel
theorem dX4_findOwnWay_39 : decode cX4_findOwnWay 39 = .ok (.imul, 1) := by decide +kernel
theorem dX4_findOwnWay_40 : decode cX4_findOwnWay 40 = .ok (.iconst 3, 1) := by decide +kernel
theorem dX4_findOwnWay_41 : decode cX4_findOwnWay 41 = .ok (.iadd, 1) := by decide +kernel
theorem dX4_findOwnWay_42 : decode cX4_findOwnWay 42 = .ok (.iaload, 1) := by decide +kernel
theorem dX4_findOwnWay_43 : decode cX4_findOwnWay 43 = .ok (.istore_n 2, 1) := by decide +kernel
theorem dX4_findOwnWay_44 : decode cX4_findOwnWay 44 = .ok (.aload_n 0, 1) := by decide +kernel
theorem dX4_findOwnWay_45 : decode cX4_findOwnWay 45 = .ok (.getfield 31, 3) := by decide +kernel
theorem dX4_findOwnWay_48 : decode cX4_findOwnWay 48 = .ok (.iload_n 1, 1) := by decide +kernel
theorem dX4_findOwnWay_49 : decode cX4_findOwnWay 49 = .ok (.iaload, 1) := by decide +kernel
theorem dX4_findOwnWay_50 : decode cX4_findOwnWay 50 = .ok (.ifCond .le 27, 3) := by decide +kernel
theorem dX4_findOwnWay_53 : decode cX4_findOwnWay 53 = .ok (.iload_n 2, 1) := by decide +kernel
theorem dX4_findOwnWay_54 : decode cX4_findOwnWay 54 = .ok (.aload_n 0, 1) := by decide +kernel
theorem dX4_findOwnWay_55 : decode cX4_findOwnWay 55 = .ok (.getfield 40, 3) := by decide +kernel
theorem dX4_findOwnWay_58 : decode cX4_findOwnWay 58 = .ok (.iload_n 1, 1) := by decide +kernel
theorem dX4_findOwnWay_59 : decode cX4_findOwnWay 59 = .ok (.iaload, 1) := by decide +kernel
theorem dX4_findOwnWay_60 : decode cX4_findOwnWay 60 = .ok (.if_icmp .ge 17, 3) := by decide +kernel
theorem dX4_findOwnWay_63 : decode cX4_findOwnWay 63 = .ok (.aload_n 0, 1) := by decide +kernel
theorem dX4_findOwnWay_64 : decode cX4_findOwnWay 64 = .ok (.getfield 40, 3) := by decide +kernel
theorem dX4_findOwnWay_67 : decode cX4_findOwnWay 67 = .ok (.iload_n 1, 1) := by decide +kernel
theorem dX4_findOwnWay_68 : decode cX4_findOwnWay 68 = .ok (.iload_n 2, 1) := by decide +kernel
theorem dX4_findOwnWay_69 : decode cX4_findOwnWay 69 = .ok (.iastore, 1) := by decide +kernel
theorem dX4_findOwnWay_70 : decode cX4_findOwnWay 70 = .ok (.aload_n 0, 1) := by decide +kernel
theorem dX4_findOwnWay_71 : decode cX4_findOwnWay 71 = .ok (.getfield 43, 3) := by decide +kernel
theorem dX4_findOwnWay_74 : decode cX4_findOwnWay 74 = .ok (.iload_n 1, 1) := by decide +kernel
theorem dX4_findOwnWay_75 : decode cX4_findOwnWay 75 = .ok (.iconst (-1), 1) := by decide +kernel
theorem dX4_findOwnWay_76 : decode cX4_findOwnWay 76 = .ok (.iastore, 1) := by decide +kernel
theorem dX4_findOwnWay_77 : decode cX4_findOwnWay 77 = .ok (.iconst 0, 1) := by decide +kernel
theorem dX4_findOwnWay_78 : decode cX4_findOwnWay 78 = .ok (.istore_n 3, 1) := by decide +kernel
theorem dX4_findOwnWay_79 : decode cX4_findOwnWay 79 = .ok (.iload_n 3, 1) := by decide +kernel
theorem dX4_findOwnWay_80 : decode cX4_findOwnWay 80 = .ok (.aload_n 0, 1) := by decide +kernel
theorem dX4_findOwnWay_81 : decode cX4_findOwnWay 81 = .ok (.getfield 9, 3) := by decide +kernel
theorem dX4_findOwnWay_84 : decode cX4_findOwnWay 84 = .ok (.if_icmp .ge 56, 3) := by decide +kernel
theorem dX4_findOwnWay_87 : decode cX4_findOwnWay 87 = .ok (.aload_n 0, 1) := by decide +kernel
theorem dX4_findOwnWay_88 : decode cX4_findOwnWay 88 = .ok (.getfield 34, 3) := by decide +kernel
theorem dX4_findOwnWay_91 : decode cX4_findOwnWay 91 = .ok (.iload_n 3, 1) := by decide +kernel
theorem dX4_findOwnWay_92 : decode cX4_findOwnWay 92 = .ok (.iconst 4, 1) := by decide +kernel
theorem dX4_findOwnWay_93 : decode cX4_findOwnWay 93 = .ok (.imul, 1) := by decide +kernel
theorem dX4_findOwnWay_94 : decode cX4_findOwnWay 94 = .ok (.iload_n 1, 1) := by decide +kernel
theorem dX4_findOwnWay_95 : decode cX4_findOwnWay 95 = .ok (.iadd, 1) := by decide +kernel
theorem dX4_findOwnWay_96 : decode cX4_findOwnWay 96 = .ok (.iaload, 1) := by decide +kernel
theorem dX4_findOwnWay_97 : decode cX4_findOwnWay 97 = .ok (.istore 4, 2) := by decide +kernel
theorem dX4_findOwnWay_99 : decode cX4_findOwnWay 99 = .ok (.aload_n 0, 1) := by decide +kernel
theorem dX4_findOwnWay_100 : decode cX4_findOwnWay 100 = .ok (.getfield 19, 3) := by decide +kernel
theorem dX4_findOwnWay_103 : decode cX4_findOwnWay 103 = .ok (.iload_n 3, 1) := by decide +kernel
theorem dX4_findOwnWay_104 : decode cX4_findOwnWay 104 = .ok (.iaload, 1) := by decide +kernel
theorem dX4_findOwnWay_105 : decode cX4_findOwnWay 105 = .ok (.ifCond .le 29, 3) := by decide +kernel
theorem dX4_findOwnWay_108 : decode cX4_findOwnWay 108 = .ok (.iload 4, 2) := by decide +kernel
theorem dX4_findOwnWay_110 : decode cX4_findOwnWay 110 = .ok (.aload_n 0, 1) := by decide +kernel
theorem dX4_findOwnWay_111 : decode cX4_findOwnWay 111 = .ok (.getfield 40, 3) := by decide +kernel
theorem dX4_findOwnWay_114 : decode cX4_findOwnWay 114 = .ok (.iload_n 1, 1) := by decide +kernel
theorem dX4_findOwnWay_115 : decode cX4_findOwnWay 115 = .ok (.iaload, 1) := by decide +kernel
theorem dX4_findOwnWay_116 : decode cX4_findOwnWay 116 = .ok (.if_icmp .ge 18, 3) := by decide +kernel
theorem dX4_findOwnWay_119 : decode cX4_findOwnWay 119 = .ok (.aload_n 0, 1) := by decide +kernel
theorem dX4_findOwnWay_120 : decode cX4_findOwnWay 120 = .ok (.getfield 40, 3) := by decide +kernel
theorem dX4_findOwnWay_123 : decode cX4_findOwnWay 123 = .ok (.iload_n 1, 1) := by decide +kernel
theorem dX4_findOwnWay_124 : decode cX4_findOwnWay 124 = .ok (.iload 4, 2) := by decide +kernel
theorem dX4_findOwnWay_126 : decode cX4_findOwnWay 126 = .ok (.iastore, 1) := by decide +kernel
theorem dX4_findOwnWay_127 : decode cX4_findOwnWay 127 = .ok (.aload_n 0, 1) := by decide +kernel
theorem dX4_findOwnWay_128 : decode cX4_findOwnWay 128 = .ok (.getfield 43, 3) := by decide +kernel
theorem dX4_findOwnWay_131 : decode cX4_findOwnWay 131 = .ok (.iload_n 1, 1) := by decide +kernel
theorem dX4_findOwnWay_132 : decode cX4_findOwnWay 132 = .ok (.iload_n 3, 1) := by decide +kernel
theorem dX4_findOwnWay_133 : decode cX4_findOwnWay 133 = .ok (.iastore, 1) := by decide +kernel
theorem dX4_findOwnWay_134 : decode cX4_findOwnWay 134 = .ok (.iinc 3 1, 3) := by decide +kernel
theorem dX4_findOwnWay_137 : decode cX4_findOwnWay 137 = .ok (.goto (-58), 3) := by decide +kernel
theorem dX4_findOwnWay_140 : decode cX4_findOwnWay 140 = .ok (.return_, 1) := by decide +kernel
theorem dX4_serve_0 : decode cX4_serve 0 = .ok (.aload_n 0, 1) := by decide +kernel
theorem dX4_serve_1 : decode cX4_serve 1 = .ok (.getfield 40, 3) := by decide +kernel
theorem dX4_serve_4 : decode cX4_serve 4 = .ok (.iload_n 1, 1) := by decide +kernel
theorem dX4_serve_5 : decode cX4_serve 5 = .ok (.iaload, 1) := by decide +kernel
theorem dX4_serve_6 : decode cX4_serve 6 = .ok (.istore_n 2, 1) := by decide +kernel
theorem dX4_serve_7 : decode cX4_serve 7 = .ok (.iload_n 1, 1) := by decide +kernel
theorem dX4_serve_8 : decode cX4_serve 8 = .ok (.istore_n 3, 1) := by decide +kernel
theorem dX4_serve_9 : decode cX4_serve 9 = .ok (.iconst 0, 1) := by decide +kernel
theorem dX4_serve_10 : decode cX4_serve 10 = .ok (.istore 4, 2) := by decide +kernel
theorem dX4_serve_12 : decode cX4_serve 12 = .ok (.iconst 0, 1) := by decide +kernel
theorem dX4_serve_13 : decode cX4_serve 13 = .ok (.istore 5, 2) := by decide +kernel
theorem dX4_serve_15 : decode cX4_serve 15 = .ok (.iload 5, 2) := by decide +kernel
theorem dX4_serve_17 : decode cX4_serve 17 = .ok (.aload_n 0, 1) := by decide +kernel
theorem dX4_serve_18 : decode cX4_serve 18 = .ok (.getfield 9, 3) := by decide +kernel
theorem dX4_serve_21 : decode cX4_serve 21 = .ok (.if_icmp .ge 89, 3) := by decide +kernel
theorem dX4_serve_24 : decode cX4_serve 24 = .ok (.iconst 0, 1) := by decide +kernel
theorem dX4_serve_25 : decode cX4_serve 25 = .ok (.istore 6, 2) := by decide +kernel
theorem dX4_serve_27 : decode cX4_serve 27 = .ok (.iload 6, 2) := by decide +kernel
theorem dX4_serve_29 : decode cX4_serve 29 = .ok (.iload_n 1, 1) := by decide +kernel
theorem dX4_serve_30 : decode cX4_serve 30 = .ok (.if_icmp .ge 74, 3) := by decide +kernel
theorem dX4_serve_33 : decode cX4_serve 33 = .ok (.aload_n 0, 1) := by decide +kernel
theorem dX4_serve_34 : decode cX4_serve 34 = .ok (.getfield 40, 3) := by decide +kernel
theorem dX4_serve_37 : decode cX4_serve 37 = .ok (.iload 6, 2) := by decide +kernel
theorem dX4_serve_39 : decode cX4_serve 39 = .ok (.iaload, 1) := by decide +kernel
theorem dX4_serve_40 : decode cX4_serve 40 = .ok (.aload_n 0, 1) := by decide +kernel
theorem dX4_serve_41 : decode cX4_serve 41 = .ok (.getfield 34, 3) := by decide +kernel
theorem dX4_serve_44 : decode cX4_serve 44 = .ok (.iload 5, 2) := by decide +kernel
theorem dX4_serve_46 : decode cX4_serve 46 = .ok (.iconst 4, 1) := by decide +kernel
theorem dX4_serve_47 : decode cX4_serve 47 = .ok (.imul, 1) := by decide +kernel
theorem dX4_serve_48 : decode cX4_serve 48 = .ok (.iload 6, 2) := by decide +kernel
theorem dX4_serve_50 : decode cX4_serve 50 = .ok (.iadd, 1) := by decide +kernel
theorem dX4_serve_51 : decode cX4_serve 51 = .ok (.iaload, 1) := by decide +kernel
theorem dX4_serve_52 : decode cX4_serve 52 = .ok (.isub, 1) := by decide +kernel
theorem dX4_serve_53 : decode cX4_serve 53 = .ok (.aload_n 0, 1) := by decide +kernel
theorem dX4_serve_54 : decode cX4_serve 54 = .ok (.getfield 34, 3) := by decide +kernel
theorem dX4_serve_57 : decode cX4_serve 57 = .ok (.iload 5, 2) := by decide +kernel
theorem dX4_serve_59 : decode cX4_serve 59 = .ok (.iconst 4, 1) := by decide +kernel
theorem dX4_serve_60 : decode cX4_serve 60 = .ok (.imul, 1) := by decide +kernel
theorem dX4_serve_61 : decode cX4_serve 61 = .ok (.iload_n 1, 1) := by decide +kernel
theorem dX4_serve_62 : decode cX4_serve 62 = .ok (.iadd, 1) := by decide +kernel
theorem dX4_serve_63 : decode cX4_serve 63 = .ok (.iaload, 1) := by decide +kernel
theorem dX4_serve_64 : decode cX4_serve 64 = .ok (.iadd, 1) := by decide +kernel
theorem dX4_serve_65 : decode cX4_serve 65 = .ok (.istore 7, 2) := by decide +kernel
theorem dX4_serve_67 : decode cX4_serve 67 = .ok (.aload_n 0, 1) := by decide +kernel
theorem dX4_serve_68 : decode cX4_serve 68 = .ok (.getfield 37, 3) := by decide +kernel
theorem dX4_serve_71 : decode cX4_serve 71 = .ok (.iload 5, 2) := by decide +kernel
theorem dX4_serve_73 : decode cX4_serve 73 = .ok (.iconst 4, 1) := by decide +kernel
theorem dX4_serve_74 : decode cX4_serve 74 = .ok (.imul, 1) := by decide +kernel
theorem dX4_serve_75 : decode cX4_serve 75 = .ok (.iload 6, 2) := by decide +kernel
theorem dX4_serve_77 : decode cX4_serve 77 = .ok (.iadd, 1) := by decide +kernel
theorem dX4_serve_78 : decode cX4_serve 78 = .ok (.iaload, 1) := by decide +kernel
theorem dX4_serve_79 : decode cX4_serve 79 = .ok (.ifCond .le 19, 3) := by decide +kernel
theorem dX4_serve_82 : decode cX4_serve 82 = .ok (.iload 7, 2) := by decide +kernel
theorem dX4_serve_84 : decode cX4_serve 84 = .ok (.iload_n 2, 1) := by decide +kernel
theorem dX4_serve_85 : decode cX4_serve 85 = .ok (.if_icmp .ge 13, 3) := by decide +kernel
theorem dX4_serve_88 : decode cX4_serve 88 = .ok (.iload 7, 2) := by decide +kernel
theorem dX4_serve_90 : decode cX4_serve 90 = .ok (.istore_n 2, 1) := by decide +kernel
theorem dX4_serve_91 : decode cX4_serve 91 = .ok (.iload 6, 2) := by decide +kernel
theorem dX4_serve_93 : decode cX4_serve 93 = .ok (.istore_n 3, 1) := by decide +kernel
theorem dX4_serve_94 : decode cX4_serve 94 = .ok (.iload 5, 2) := by decide +kernel
theorem dX4_serve_96 : decode cX4_serve 96 = .ok (.istore 4, 2) := by decide +kernel
theorem dX4_serve_98 : decode cX4_serve 98 = .ok (.iinc 6 1, 3) := by decide +kernel
theorem dX4_serve_101 : decode cX4_serve 101 = .ok (.goto (-74), 3) := by decide +kernel
theorem dX4_serve_104 : decode cX4_serve 104 = .ok (.iinc 5 1, 3) := by decide +kernel
theorem dX4_serve_107 : decode cX4_serve 107 = .ok (.goto (-92), 3) := by decide +kernel
theorem dX4_serve_110 : decode cX4_serve 110 = .ok (.aload_n 0, 1) := by decide +kernel
theorem dX4_serve_111 : decode cX4_serve 111 = .ok (.getfield 28, 3) := by decide +kernel
theorem dX4_serve_114 : decode cX4_serve 114 = .ok (.iload_n 1, 1) := by decide +kernel
theorem dX4_serve_115 : decode cX4_serve 115 = .ok (.iaload, 1) := by decide +kernel
theorem dX4_serve_116 : decode cX4_serve 116 = .ok (.aload_n 0, 1) := by decide +kernel
theorem dX4_serve_117 : decode cX4_serve 117 = .ok (.iload_n 3, 1) := by decide +kernel
theorem dX4_serve_118 : decode cX4_serve 118 = .ok (.invokevirtual 73, 3) := by decide +kernel
theorem dX4_serve_121 : decode cX4_serve 121 = .ok (.invokestatic 76, 3) := by decide +kernel
theorem dX4_serve_124 : decode cX4_serve 124 = .ok (.istore 5, 2) := by decide +kernel
theorem dX4_serve_126 : decode cX4_serve 126 = .ok (.iload_n 3, 1) := by decide +kernel
theorem dX4_serve_127 : decode cX4_serve 127 = .ok (.iload_n 1, 1) := by decide +kernel
theorem dX4_serve_128 : decode cX4_serve 128 = .ok (.if_icmp .eq 53, 3) := by decide +kernel
theorem dX4_serve_131 : decode cX4_serve 131 = .ok (.iload 5, 2) := by decide +kernel
theorem dX4_serve_133 : decode cX4_serve 133 = .ok (.aload_n 0, 1) := by decide +kernel
theorem dX4_serve_134 : decode cX4_serve 134 = .ok (.getfield 37, 3) := by decide +kernel
theorem dX4_serve_137 : decode cX4_serve 137 = .ok (.iload 4, 2) := by decide +kernel
theorem dX4_serve_139 : decode cX4_serve 139 = .ok (.iconst 4, 1) := by decide +kernel
theorem dX4_serve_140 : decode cX4_serve 140 = .ok (.imul, 1) := by decide +kernel
theorem dX4_serve_141 : decode cX4_serve 141 = .ok (.iload_n 3, 1) := by decide +kernel
theorem dX4_serve_142 : decode cX4_serve 142 = .ok (.iadd, 1) := by decide +kernel
theorem dX4_serve_143 : decode cX4_serve 143 = .ok (.iaload, 1) := by decide +kernel
theorem dX4_serve_144 : decode cX4_serve 144 = .ok (.invokestatic 76, 3) := by decide +kernel
theorem dX4_serve_147 : decode cX4_serve 147 = .ok (.istore 5, 2) := by decide +kernel
theorem dX4_serve_149 : decode cX4_serve 149 = .ok (.aload_n 0, 1) := by decide +kernel
theorem dX4_serve_150 : decode cX4_serve 150 = .ok (.getfield 37, 3) := by decide +kernel
theorem dX4_serve_153 : decode cX4_serve 153 = .ok (.iload 4, 2) := by decide +kernel
theorem dX4_serve_155 : decode cX4_serve 155 = .ok (.iconst 4, 1) := by decide +kernel
theorem dX4_serve_156 : decode cX4_serve 156 = .ok (.imul, 1) := by decide +kernel
theorem dX4_serve_157 : decode cX4_serve 157 = .ok (.iload_n 3, 1) := by decide +kernel
theorem dX4_serve_158 : decode cX4_serve 158 = .ok (.iadd, 1) := by decide +kernel
theorem dX4_serve_159 : decode cX4_serve 159 = .ok (.dup2, 1) := by decide +kernel
theorem dX4_serve_160 : decode cX4_serve 160 = .ok (.iaload, 1) := by decide +kernel
theorem dX4_serve_161 : decode cX4_serve 161 = .ok (.iload 5, 2) := by decide +kernel
theorem dX4_serve_163 : decode cX4_serve 163 = .ok (.isub, 1) := by decide +kernel
theorem dX4_serve_164 : decode cX4_serve 164 = .ok (.iastore, 1) := by decide +kernel
theorem dX4_serve_165 : decode cX4_serve 165 = .ok (.aload_n 0, 1) := by decide +kernel
theorem dX4_serve_166 : decode cX4_serve 166 = .ok (.getfield 37, 3) := by decide +kernel
theorem dX4_serve_169 : decode cX4_serve 169 = .ok (.iload 4, 2) := by decide +kernel
theorem dX4_serve_171 : decode cX4_serve 171 = .ok (.iconst 4, 1) := by decide +kernel
theorem dX4_serve_172 : decode cX4_serve 172 = .ok (.imul, 1) := by decide +kernel
theorem dX4_serve_173 : decode cX4_serve 173 = .ok (.iload_n 1, 1) := by decide +kernel
theorem dX4_serve_174 : decode cX4_serve 174 = .ok (.iadd, 1) := by decide +kernel
theorem dX4_serve_175 : decode cX4_serve 175 = .ok (.dup2, 1) := by decide +kernel
theorem dX4_serve_176 : decode cX4_serve 176 = .ok (.iaload, 1) := by decide +kernel
theorem dX4_serve_177 : decode cX4_serve 177 = .ok (.iload 5, 2) := by decide +kernel
theorem dX4_serve_179 : decode cX4_serve 179 = .ok (.iadd, 1) := by decide +kernel
theorem dX4_serve_180 : decode cX4_serve 180 = .ok (.iastore, 1) := by decide +kernel
theorem dX4_serve_181 : decode cX4_serve 181 = .ok (.aload_n 0, 1) := by decide +kernel
theorem dX4_serve_182 : decode cX4_serve 182 = .ok (.iload_n 3, 1) := by decide +kernel
theorem dX4_serve_183 : decode cX4_serve 183 = .ok (.iload 5, 2) := by decide +kernel
theorem dX4_serve_185 : decode cX4_serve 185 = .ok (.invokevirtual 82, 3) := by decide +kernel
theorem dX4_serve_188 : decode cX4_serve 188 = .ok (.aload_n 0, 1) := by decide +kernel
theorem dX4_serve_189 : decode cX4_serve 189 = .ok (.getfield 28, 3) := by decide +kernel
theorem dX4_serve_192 : decode cX4_serve 192 = .ok (.iload_n 1, 1) := by decide +kernel
theorem dX4_serve_193 : decode cX4_serve 193 = .ok (.dup2, 1) := by decide +kernel
theorem dX4_serve_194 : decode cX4_serve 194 = .ok (.iaload, 1) := by decide +kernel
theorem dX4_serve_195 : decode cX4_serve 195 = .ok (.iload 5, 2) := by decide +kernel
theorem dX4_serve_197 : decode cX4_serve 197 = .ok (.isub, 1) := by decide +kernel
theorem dX4_serve_198 : decode cX4_serve 198 = .ok (.iastore, 1) := by decide +kernel
theorem dX4_serve_199 : decode cX4_serve 199 = .ok (.iload 5, 2) := by decide +kernel
theorem dX4_serve_201 : decode cX4_serve 201 = .ok (.iload_n 2, 1) := by decide +kernel
theorem dX4_serve_202 : decode cX4_serve 202 = .ok (.imul, 1) := by decide +kernel
theorem dX4_serve_203 : decode cX4_serve 203 = .ok (.ireturn, 1) := by decide +kernel
theorem dX4_roomOf_0 : decode cX4_roomOf 0 = .ok (.aload_n 0, 1) := by decide +kernel
theorem dX4_roomOf_1 : decode cX4_roomOf 1 = .ok (.getfield 43, 3) := by decide +kernel
theorem dX4_roomOf_4 : decode cX4_roomOf 4 = .ok (.iload_n 1, 1) := by decide +kernel
theorem dX4_roomOf_5 : decode cX4_roomOf 5 = .ok (.iaload, 1) := by decide +kernel
theorem dX4_roomOf_6 : decode cX4_roomOf 6 = .ok (.istore_n 2, 1) := by decide +kernel
theorem dX4_roomOf_7 : decode cX4_roomOf 7 = .ok (.iload_n 2, 1) := by decide +kernel
theorem dX4_roomOf_8 : decode cX4_roomOf 8 = .ok (.iconst (-1), 1) := by decide +kernel
theorem dX4_roomOf_9 : decode cX4_roomOf 9 = .ok (.if_icmp .ne 10, 3) := by decide +kernel
theorem dX4_roomOf_12 : decode cX4_roomOf 12 = .ok (.aload_n 0, 1) := by decide +kernel
theorem dX4_roomOf_13 : decode cX4_roomOf 13 = .ok (.getfield 31, 3) := by decide +kernel
theorem dX4_roomOf_16 : decode cX4_roomOf 16 = .ok (.iload_n 1, 1) := by decide +kernel
theorem dX4_roomOf_17 : decode cX4_roomOf 17 = .ok (.iaload, 1) := by decide +kernel
theorem dX4_roomOf_18 : decode cX4_roomOf 18 = .ok (.ireturn, 1) := by decide +kernel
theorem dX4_roomOf_19 : decode cX4_roomOf 19 = .ok (.iload_n 2, 1) := by decide +kernel
theorem dX4_roomOf_20 : decode cX4_roomOf 20 = .ok (.ifCond .lt 20, 3) := by decide +kernel
theorem dX4_roomOf_23 : decode cX4_roomOf 23 = .ok (.iload_n 2, 1) := by decide +kernel
theorem dX4_roomOf_24 : decode cX4_roomOf 24 = .ok (.aload_n 0, 1) := by decide +kernel
theorem dX4_roomOf_25 : decode cX4_roomOf 25 = .ok (.getfield 9, 3) := by decide +kernel
theorem dX4_roomOf_28 : decode cX4_roomOf 28 = .ok (.if_icmp .ge 12, 3) := by decide +kernel
theorem dX4_roomOf_31 : decode cX4_roomOf 31 = .ok (.aload_n 0, 1) := by decide +kernel
theorem dX4_roomOf_32 : decode cX4_roomOf 32 = .ok (.getfield 19, 3) := by decide +kernel
theorem dX4_roomOf_35 : decode cX4_roomOf 35 = .ok (.iload_n 2, 1) := by decide +kernel
theorem dX4_roomOf_36 : decode cX4_roomOf 36 = .ok (.iaload, 1) := by decide +kernel
theorem dX4_roomOf_37 : decode cX4_roomOf 37 = .ok (.goto 6, 3) := by decide +kernel
theorem dX4_roomOf_40 : decode cX4_roomOf 40 = .ok (.sipush 198, 3) := by decide +kernel
theorem dX4_roomOf_43 : decode cX4_roomOf 43 = .ok (.ireturn, 1) := by decide +kernel
theorem dX4_goOwnWay_0 : decode cX4_goOwnWay 0 = .ok (.aload_n 0, 1) := by decide +kernel
theorem dX4_goOwnWay_1 : decode cX4_goOwnWay 1 = .ok (.getfield 43, 3) := by decide +kernel
theorem dX4_goOwnWay_4 : decode cX4_goOwnWay 4 = .ok (.iload_n 1, 1) := by decide +kernel
theorem dX4_goOwnWay_5 : decode cX4_goOwnWay 5 = .ok (.iaload, 1) := by decide +kernel
theorem dX4_goOwnWay_6 : decode cX4_goOwnWay 6 = .ok (.istore_n 3, 1) := by decide +kernel
theorem dX4_goOwnWay_7 : decode cX4_goOwnWay 7 = .ok (.iload_n 3, 1) := by decide +kernel
theorem dX4_goOwnWay_8 : decode cX4_goOwnWay 8 = .ok (.iconst (-1), 1) := by decide +kernel
theorem dX4_goOwnWay_9 : decode cX4_goOwnWay 9 = .ok (.if_icmp .ne 16, 3) := by decide +kernel
theorem dX4_goOwnWay_12 : decode cX4_goOwnWay 12 = .ok (.aload_n 0, 1) := by decide +kernel
theorem dX4_goOwnWay_13 : decode cX4_goOwnWay 13 = .ok (.getfield 31, 3) := by decide +kernel
theorem dX4_goOwnWay_16 : decode cX4_goOwnWay 16 = .ok (.iload_n 1, 1) := by decide +kernel
theorem dX4_goOwnWay_17 : decode cX4_goOwnWay 17 = .ok (.dup2, 1) := by decide +kernel
theorem dX4_goOwnWay_18 : decode cX4_goOwnWay 18 = .ok (.iaload, 1) := by decide +kernel
theorem dX4_goOwnWay_19 : decode cX4_goOwnWay 19 = .ok (.iload_n 2, 1) := by decide +kernel
theorem dX4_goOwnWay_20 : decode cX4_goOwnWay 20 = .ok (.isub, 1) := by decide +kernel
theorem dX4_goOwnWay_21 : decode cX4_goOwnWay 21 = .ok (.iastore, 1) := by decide +kernel
theorem dX4_goOwnWay_22 : decode cX4_goOwnWay 22 = .ok (.goto 39, 3) := by decide +kernel
theorem dX4_goOwnWay_25 : decode cX4_goOwnWay 25 = .ok (.iload_n 3, 1) := by decide +kernel
theorem dX4_goOwnWay_26 : decode cX4_goOwnWay 26 = .ok (.ifCond .lt 35, 3) := by decide +kernel
theorem dX4_goOwnWay_29 : decode cX4_goOwnWay 29 = .ok (.iload_n 3, 1) := by decide +kernel
theorem dX4_goOwnWay_30 : decode cX4_goOwnWay 30 = .ok (.aload_n 0, 1) := by decide +kernel
theorem dX4_goOwnWay_31 : decode cX4_goOwnWay 31 = .ok (.getfield 9, 3) := by decide +kernel
theorem dX4_goOwnWay_34 : decode cX4_goOwnWay 34 = .ok (.if_icmp .ge 27, 3) := by decide +kernel
theorem dX4_goOwnWay_37 : decode cX4_goOwnWay 37 = .ok (.aload_n 0, 1) := by decide +kernel
theorem dX4_goOwnWay_38 : decode cX4_goOwnWay 38 = .ok (.getfield 19, 3) := by decide +kernel
theorem dX4_goOwnWay_41 : decode cX4_goOwnWay 41 = .ok (.iload_n 3, 1) := by decide +kernel
theorem dX4_goOwnWay_42 : decode cX4_goOwnWay 42 = .ok (.dup2, 1) := by decide +kernel
theorem dX4_goOwnWay_43 : decode cX4_goOwnWay 43 = .ok (.iaload, 1) := by decide +kernel
theorem dX4_goOwnWay_44 : decode cX4_goOwnWay 44 = .ok (.iload_n 2, 1) := by decide +kernel
theorem dX4_goOwnWay_45 : decode cX4_goOwnWay 45 = .ok (.isub, 1) := by decide +kernel
theorem dX4_goOwnWay_46 : decode cX4_goOwnWay 46 = .ok (.iastore, 1) := by decide +kernel
theorem dX4_goOwnWay_47 : decode cX4_goOwnWay 47 = .ok (.aload_n 0, 1) := by decide +kernel
theorem dX4_goOwnWay_48 : decode cX4_goOwnWay 48 = .ok (.getfield 37, 3) := by decide +kernel
theorem dX4_goOwnWay_51 : decode cX4_goOwnWay 51 = .ok (.iload_n 3, 1) := by decide +kernel
theorem dX4_goOwnWay_52 : decode cX4_goOwnWay 52 = .ok (.iconst 4, 1) := by decide +kernel
theorem dX4_goOwnWay_53 : decode cX4_goOwnWay 53 = .ok (.imul, 1) := by decide +kernel
theorem dX4_goOwnWay_54 : decode cX4_goOwnWay 54 = .ok (.iload_n 1, 1) := by decide +kernel
theorem dX4_goOwnWay_55 : decode cX4_goOwnWay 55 = .ok (.iadd, 1) := by decide +kernel
theorem dX4_goOwnWay_56 : decode cX4_goOwnWay 56 = .ok (.dup2, 1) := by decide +kernel
theorem dX4_goOwnWay_57 : decode cX4_goOwnWay 57 = .ok (.iaload, 1) := by decide +kernel
theorem dX4_goOwnWay_58 : decode cX4_goOwnWay 58 = .ok (.iload_n 2, 1) := by decide +kernel
theorem dX4_goOwnWay_59 : decode cX4_goOwnWay 59 = .ok (.iadd, 1) := by decide +kernel
theorem dX4_goOwnWay_60 : decode cX4_goOwnWay 60 = .ok (.iastore, 1) := by decide +kernel
theorem dX4_goOwnWay_61 : decode cX4_goOwnWay 61 = .ok (.return_, 1) := by decide +kernel
theorem dX5_worldsOf_0 : decode cX5_worldsOf 0 = .ok (.aload_n 0, 1) := by decide +kernel
theorem dX5_worldsOf_1 : decode cX5_worldsOf 1 = .ok (.invokevirtual 9, 3) := by decide +kernel
theorem dX5_worldsOf_4 : decode cX5_worldsOf 4 = .ok (.aload_n 0, 1) := by decide +kernel
theorem dX5_worldsOf_5 : decode cX5_worldsOf 5 = .ok (.iconst 0, 1) := by decide +kernel
theorem dX5_worldsOf_6 : decode cX5_worldsOf 6 = .ok (.invokestatic 14, 3) := by decide +kernel
theorem dX5_worldsOf_9 : decode cX5_worldsOf 9 = .ok (.istore_n 1, 1) := by decide +kernel
theorem dX5_worldsOf_10 : decode cX5_worldsOf 10 = .ok (.aload_n 0, 1) := by decide +kernel
theorem dX5_worldsOf_11 : decode cX5_worldsOf 11 = .ok (.invokevirtual 20, 3) := by decide +kernel
theorem dX5_worldsOf_14 : decode cX5_worldsOf 14 = .ok (.iload_n 1, 1) := by decide +kernel
theorem dX5_worldsOf_15 : decode cX5_worldsOf 15 = .ok (.ireturn, 1) := by decide +kernel
theorem dX5_readTest_0 : decode cX5_readTest 0 = .ok (.aload_n 0, 1) := by decide +kernel
theorem dX5_readTest_1 : decode cX5_readTest 1 = .ok (.iload_n 1, 1) := by decide +kernel
theorem dX5_readTest_2 : decode cX5_readTest 2 = .ok (.invokestatic 23, 3) := by decide +kernel
theorem dX5_readTest_5 : decode cX5_readTest 5 = .ok (.istore_n 2, 1) := by decide +kernel
theorem dX5_readTest_6 : decode cX5_readTest 6 = .ok (.iconst 0, 1) := by decide +kernel
theorem dX5_readTest_7 : decode cX5_readTest 7 = .ok (.istore_n 3, 1) := by decide +kernel
theorem dX5_readTest_8 : decode cX5_readTest 8 = .ok (.iload_n 3, 1) := by decide +kernel
theorem dX5_readTest_9 : decode cX5_readTest 9 = .ok (.bipush 40, 2) := by decide +kernel
theorem dX5_readTest_11 : decode cX5_readTest 11 = .ok (.if_icmp .ge 26, 3) := by decide +kernel
theorem dX5_readTest_14 : decode cX5_readTest 14 = .ok (.aload_n 0, 1) := by decide +kernel
theorem dX5_readTest_15 : decode cX5_readTest 15 = .ok (.bipush 124, 2) := by decide +kernel
theorem dX5_readTest_17 : decode cX5_readTest 17 = .ok (.invokevirtual 26, 3) := by decide +kernel
theorem dX5_readTest_20 : decode cX5_readTest 20 = .ok (.ifCond .eq 17, 3) := by decide +kernel
theorem dX5_readTest_23 : decode cX5_readTest 23 = .ok (.iload_n 2, 1) := by decide +kernel
theorem dX5_readTest_24 : decode cX5_readTest 24 = .ok (.aload_n 0, 1) := by decide +kernel
theorem dX5_readTest_25 : decode cX5_readTest 25 = .ok (.iload_n 1, 1) := by decide +kernel
theorem dX5_readTest_26 : decode cX5_readTest 26 = .ok (.invokestatic 23, 3) := by decide +kernel
theorem dX5_readTest_29 : decode cX5_readTest 29 = .ok (.ior, 1) := by decide +kernel
theorem dX5_readTest_30 : decode cX5_readTest 30 = .ok (.istore_n 2, 1) := by decide +kernel
theorem dX5_readTest_31 : decode cX5_readTest 31 = .ok (.iinc 3 1, 3) := by decide +kernel
theorem dX5_readTest_34 : decode cX5_readTest 34 = .ok (.goto (-26), 3) := by decide +kernel
theorem dX5_readTest_37 : decode cX5_readTest 37 = .ok (.iload_n 2, 1) := by decide +kernel
theorem dX5_readTest_38 : decode cX5_readTest 38 = .ok (.ireturn, 1) := by decide +kernel
theorem dX5_readTerm_0 : decode cX5_readTerm 0 = .ok (.aload_n 0, 1) := by decide +kernel
theorem dX5_readTerm_1 : decode cX5_readTerm 1 = .ok (.iload_n 1, 1) := by decide +kernel
theorem dX5_readTerm_2 : decode cX5_readTerm 2 = .ok (.invokestatic 30, 3) := by decide +kernel
theorem dX5_readTerm_5 : decode cX5_readTerm 5 = .ok (.istore_n 2, 1) := by decide +kernel
theorem dX5_readTerm_6 : decode cX5_readTerm 6 = .ok (.iconst 0, 1) := by decide +kernel
theorem dX5_readTerm_7 : decode cX5_readTerm 7 = .ok (.istore_n 3, 1) := by decide +kernel
theorem dX5_readTerm_8 : decode cX5_readTerm 8 = .ok (.iload_n 3, 1) := by decide +kernel
theorem dX5_readTerm_9 : decode cX5_readTerm 9 = .ok (.bipush 40, 2) := by decide +kernel
theorem dX5_readTerm_11 : decode cX5_readTerm 11 = .ok (.if_icmp .ge 26, 3) := by decide +kernel
theorem dX5_readTerm_14 : decode cX5_readTerm 14 = .ok (.aload_n 0, 1) := by decide +kernel
theorem dX5_readTerm_15 : decode cX5_readTerm 15 = .ok (.bipush 38, 2) := by decide +kernel
theorem dX5_readTerm_17 : decode cX5_readTerm 17 = .ok (.invokevirtual 26, 3) := by decide +kernel
theorem dX5_readTerm_20 : decode cX5_readTerm 20 = .ok (.ifCond .eq 17, 3) := by decide +kernel
theorem dX5_readTerm_23 : decode cX5_readTerm 23 = .ok (.iload_n 2, 1) := by decide +kernel
theorem dX5_readTerm_24 : decode cX5_readTerm 24 = .ok (.aload_n 0, 1) := by decide +kernel
theorem dX5_readTerm_25 : decode cX5_readTerm 25 = .ok (.iload_n 1, 1) := by decide +kernel
theorem dX5_readTerm_26 : decode cX5_readTerm 26 = .ok (.invokestatic 30, 3) := by decide +kernel
theorem dX5_readTerm_29 : decode cX5_readTerm 29 = .ok (.iand, 1) := by decide +kernel
theorem dX5_readTerm_30 : decode cX5_readTerm 30 = .ok (.istore_n 2, 1) := by decide +kernel
theorem dX5_readTerm_31 : decode cX5_readTerm 31 = .ok (.iinc 3 1, 3) := by decide +kernel
theorem dX5_readTerm_34 : decode cX5_readTerm 34 = .ok (.goto (-26), 3) := by decide +kernel
theorem dX5_readTerm_37 : decode cX5_readTerm 37 = .ok (.iload_n 2, 1) := by decide +kernel
theorem dX5_readTerm_38 : decode cX5_readTerm 38 = .ok (.ireturn, 1) := by decide +kernel
theorem dX5_readPart_0 : decode cX5_readPart 0 = .ok (.aload_n 0, 1) := by decide +kernel
theorem dX5_readPart_1 : decode cX5_readPart 1 = .ok (.getfield 33, 3) := by decide +kernel
theorem dX5_readPart_4 : decode cX5_readPart 4 = .ok (.istore_n 2, 1) := by decide +kernel
theorem dX5_readPart_5 : decode cX5_readPart 5 = .ok (.aload_n 0, 1) := by decide +kernel
theorem dX5_readPart_6 : decode cX5_readPart 6 = .ok (.bipush 98, 2) := by decide +kernel
theorem dX5_readPart_8 : decode cX5_readPart 8 = .ok (.invokevirtual 26, 3) := by decide +kernel
theorem dX5_readPart_11 : decode cX5_readPart 11 = .ok (.ifCond .eq 11, 3) := by decide +kernel
theorem dX5_readPart_14 : decode cX5_readPart 14 = .ok (.aload_n 0, 1) := by decide +kernel
theorem dX5_readPart_15 : decode cX5_readPart 15 = .ok (.invokevirtual 37, 3) := by decide +kernel
theorem dX5_readPart_18 : decode cX5_readPart 18 = .ok (.invokestatic 41, 3) := by decide +kernel
theorem dX5_readPart_21 : decode cX5_readPart 21 = .ok (.ireturn, 1) := by decide +kernel
theorem dX5_readPart_22 : decode cX5_readPart 22 = .ok (.aload_n 0, 1) := by decide +kernel
theorem dX5_readPart_23 : decode cX5_readPart 23 = .ok (.bipush 110, 2) := by decide +kernel
theorem dX5_readPart_25 : decode cX5_readPart 25 = .ok (.invokevirtual 26, 3) := by decide +kernel
theorem dX5_readPart_28 : decode cX5_readPart 28 = .ok (.ifCond .eq 8, 3) := by decide +kernel
theorem dX5_readPart_31 : decode cX5_readPart 31 = .ok (.aload_n 0, 1) := by decide +kernel
theorem dX5_readPart_32 : decode cX5_readPart 32 = .ok (.invokestatic 45, 3) := by decide +kernel
theorem dX5_readPart_35 : decode cX5_readPart 35 = .ok (.ireturn, 1) := by decide +kernel
theorem dX5_readPart_36 : decode cX5_readPart 36 = .ok (.aload_n 0, 1) := by decide +kernel
theorem dX5_readPart_37 : decode cX5_readPart 37 = .ok (.bipush 33, 2) := by decide +kernel
theorem dX5_readPart_39 : decode cX5_readPart 39 = .ok (.invokevirtual 26, 3) := by decide +kernel
theorem dX5_readPart_42 : decode cX5_readPart 42 = .ok (.istore_n 3, 1) := by decide +kernel
theorem dX5_readPart_43 : decode cX5_readPart 43 = .ok (.iload_n 3, 1) := by decide +kernel
theorem dX5_readPart_44 : decode cX5_readPart 44 = .ok (.ifCond .ne 12, 3) := by decide +kernel
theorem dX5_readPart_47 : decode cX5_readPart 47 = .ok (.aload_n 0, 1) := by decide +kernel
theorem dX5_readPart_48 : decode cX5_readPart 48 = .ok (.bipush 40, 2) := by decide +kernel
theorem dX5_readPart_50 : decode cX5_readPart 50 = .ok (.invokevirtual 26, 3) := by decide +kernel
theorem dX5_readPart_53 : decode cX5_readPart 53 = .ok (.ifCond .eq 8, 3) := by decide +kernel
theorem dX5_readPart_56 : decode cX5_readPart 56 = .ok (.iload_n 1, 1) := by decide +kernel
theorem dX5_readPart_57 : decode cX5_readPart 57 = .ok (.iconst 4, 1) := by decide +kernel
theorem dX5_readPart_58 : decode cX5_readPart 58 = .ok (.if_icmp .lt 10, 3) := by decide +kernel
theorem dX5_readPart_61 : decode cX5_readPart 61 = .ok (.aload_n 0, 1) := by decide +kernel
theorem dX5_readPart_62 : decode cX5_readPart 62 = .ok (.iload_n 2, 1) := by decide +kernel
theorem dX5_readPart_63 : decode cX5_readPart 63 = .ok (.invokevirtual 49, 3) := by decide +kernel
theorem dX5_readPart_66 : decode cX5_readPart 66 = .ok (.iconst 0, 1) := by decide +kernel
theorem dX5_readPart_67 : decode cX5_readPart 67 = .ok (.ireturn, 1) := by decide +kernel
theorem dX5_readPart_68 : decode cX5_readPart 68 = .ok (.iload_n 3, 1) := by decide +kernel
theorem dX5_readPart_69 : decode cX5_readPart 69 = .ok (.ifCond .eq 16, 3) := by decide +kernel
theorem dX5_readPart_72 : decode cX5_readPart 72 = .ok (.ldc 53, 2) := by decide +kernel
theorem dX5_readPart_74 : decode cX5_readPart 74 = .ok (.aload_n 0, 1) := by decide +kernel
theorem dX5_readPart_75 : decode cX5_readPart 75 = .ok (.iload_n 1, 1) := by decide +kernel
theorem dX5_readPart_76 : decode cX5_readPart 76 = .ok (.iconst 1, 1) := by decide +kernel
theorem dX5_readPart_77 : decode cX5_readPart 77 = .ok (.iadd, 1) := by decide +kernel
theorem dX5_readPart_78 : decode cX5_readPart 78 = .ok (.invokestatic 30, 3) := by decide +kernel
theorem dX5_readPart_81 : decode cX5_readPart 81 = .ok (.iconst (-1), 1) := by decide +kernel
theorem dX5_readPart_82 : decode cX5_readPart 82 = .ok (.ixor, 1) := by decide +kernel
theorem dX5_readPart_83 : decode cX5_readPart 83 = .ok (.iand, 1) := by decide +kernel
theorem dX5_readPart_84 : decode cX5_readPart 84 = .ok (.ireturn, 1) := by decide +kernel
theorem dX5_readPart_85 : decode cX5_readPart 85 = .ok (.aload_n 0, 1) := by decide +kernel
theorem dX5_readPart_86 : decode cX5_readPart 86 = .ok (.iload_n 1, 1) := by decide +kernel
theorem dX5_readPart_87 : decode cX5_readPart 87 = .ok (.iconst 1, 1) := by decide +kernel
theorem dX5_readPart_88 : decode cX5_readPart 88 = .ok (.iadd, 1) := by decide +kernel
theorem dX5_readPart_89 : decode cX5_readPart 89 = .ok (.invokestatic 14, 3) := by decide +kernel
theorem dX5_readPart_92 : decode cX5_readPart 92 = .ok (.istore 4, 2) := by decide +kernel
theorem dX5_readPart_94 : decode cX5_readPart 94 = .ok (.aload_n 0, 1) := by decide +kernel
theorem dX5_readPart_95 : decode cX5_readPart 95 = .ok (.bipush 41, 2) := by decide +kernel
theorem dX5_readPart_97 : decode cX5_readPart 97 = .ok (.invokevirtual 26, 3) := by decide +kernel
theorem dX5_readPart_100 : decode cX5_readPart 100 = .ok (.ifCond .ne 11, 3) := by decide +kernel
theorem dX5_readPart_103 : decode cX5_readPart 103 = .ok (.aload_n 0, 1) := by decide +kernel
theorem dX5_readPart_104 : decode cX5_readPart 104 = .ok (.aload_n 0, 1) := by decide +kernel
theorem dX5_readPart_105 : decode cX5_readPart 105 = .ok (.getfield 33, 3) := by decide +kernel
theorem dX5_readPart_108 : decode cX5_readPart 108 = .ok (.invokevirtual 49, 3) := by decide +kernel
theorem dX5_readPart_111 : decode cX5_readPart 111 = .ok (.iload 4, 2) := by decide +kernel
theorem dX5_readPart_113 : decode cX5_readPart 113 = .ok (.ireturn, 1) := by decide +kernel
theorem dX5_readCount_0 : decode cX5_readCount 0 = .ok (.aload_n 0, 1) := by decide +kernel
theorem dX5_readCount_1 : decode cX5_readCount 1 = .ok (.invokevirtual 54, 3) := by decide +kernel
theorem dX5_readCount_4 : decode cX5_readCount 4 = .ok (.istore_n 1, 1) := by decide +kernel
theorem dX5_readCount_5 : decode cX5_readCount 5 = .ok (.iload_n 1, 1) := by decide +kernel
theorem dX5_readCount_6 : decode cX5_readCount 6 = .ok (.bipush 60, 2) := by decide +kernel
theorem dX5_readCount_8 : decode cX5_readCount 8 = .ok (.if_icmp .eq 25, 3) := by decide +kernel
theorem dX5_readCount_11 : decode cX5_readCount 11 = .ok (.iload_n 1, 1) := by decide +kernel
theorem dX5_readCount_12 : decode cX5_readCount 12 = .ok (.bipush 61, 2) := by decide +kernel
theorem dX5_readCount_14 : decode cX5_readCount 14 = .ok (.if_icmp .eq 19, 3) := by decide +kernel
theorem dX5_readCount_17 : decode cX5_readCount 17 = .ok (.iload_n 1, 1) := by decide +kernel
theorem dX5_readCount_18 : decode cX5_readCount 18 = .ok (.bipush 62, 2) := by decide +kernel
theorem dX5_readCount_20 : decode cX5_readCount 20 = .ok (.if_icmp .eq 13, 3) := by decide +kernel
theorem dX5_readCount_23 : decode cX5_readCount 23 = .ok (.aload_n 0, 1) := by decide +kernel
theorem dX5_readCount_24 : decode cX5_readCount 24 = .ok (.aload_n 0, 1) := by decide +kernel
theorem dX5_readCount_25 : decode cX5_readCount 25 = .ok (.getfield 33, 3) := by decide +kernel
theorem dX5_readCount_28 : decode cX5_readCount 28 = .ok (.invokevirtual 49, 3) := by decide +kernel
theorem dX5_readCount_31 : decode cX5_readCount 31 = .ok (.iconst 0, 1) := by decide +kernel
theorem dX5_readCount_32 : decode cX5_readCount 32 = .ok (.ireturn, 1) := by decide +kernel
theorem dX5_readCount_33 : decode cX5_readCount 33 = .ok (.aload_n 0, 1) := by decide +kernel
theorem dX5_readCount_34 : decode cX5_readCount 34 = .ok (.iload_n 1, 1) := by decide +kernel
theorem dX5_readCount_35 : decode cX5_readCount 35 = .ok (.invokevirtual 26, 3) := by decide +kernel
theorem dX5_readCount_38 : decode cX5_readCount 38 = .ok (.pop, 1) := by decide +kernel
theorem dX5_readCount_39 : decode cX5_readCount 39 = .ok (.aload_n 0, 1) := by decide +kernel
theorem dX5_readCount_40 : decode cX5_readCount 40 = .ok (.invokevirtual 37, 3) := by decide +kernel
theorem dX5_readCount_43 : decode cX5_readCount 43 = .ok (.istore_n 2, 1) := by decide +kernel
theorem dX5_readCount_44 : decode cX5_readCount 44 = .ok (.iconst 0, 1) := by decide +kernel
theorem dX5_readCount_45 : decode cX5_readCount 45 = .ok (.istore_n 3, 1) := by decide +kernel
theorem dX5_readCount_46 : decode cX5_readCount 46 = .ok (.iconst 0, 1) := by decide +kernel
theorem dX5_readCount_47 : decode cX5_readCount 47 = .ok (.istore 4, 2) := by decide +kernel
theorem dX5_readCount_49 : decode cX5_readCount 49 = .ok (.iload 4, 2) := by decide +kernel
theorem dX5_readCount_51 : decode cX5_readCount 51 = .ok (.bipush 16, 2) := by decide +kernel
theorem dX5_readCount_53 : decode cX5_readCount 53 = .ok (.if_icmp .ge 81, 3) := by decide +kernel
theorem dX5_readCount_56 : decode cX5_readCount 56 = .ok (.iload 4, 2) := by decide +kernel
theorem dX5_readCount_58 : decode cX5_readCount 58 = .ok (.invokestatic 57, 3) := by decide +kernel
theorem dX5_readCount_61 : decode cX5_readCount 61 = .ok (.istore 5, 2) := by decide +kernel
theorem dX5_readCount_63 : decode cX5_readCount 63 = .ok (.iload_n 1, 1) := by decide +kernel
theorem dX5_readCount_64 : decode cX5_readCount 64 = .ok (.bipush 60, 2) := by decide +kernel
theorem dX5_readCount_66 : decode cX5_readCount 66 = .ok (.if_icmp .ne 17, 3) := by decide +kernel
theorem dX5_readCount_69 : decode cX5_readCount 69 = .ok (.iload 5, 2) := by decide +kernel
theorem dX5_readCount_71 : decode cX5_readCount 71 = .ok (.iload_n 2, 1) := by decide +kernel
theorem dX5_readCount_72 : decode cX5_readCount 72 = .ok (.if_icmp .ge 7, 3) := by decide +kernel
theorem dX5_readCount_75 : decode cX5_readCount 75 = .ok (.iconst 1, 1) := by decide +kernel
theorem dX5_readCount_76 : decode cX5_readCount 76 = .ok (.goto 38, 3) := by decide +kernel
theorem dX5_readCount_79 : decode cX5_readCount 79 = .ok (.iconst 0, 1) := by decide +kernel
theorem dX5_readCount_80 : decode cX5_readCount 80 = .ok (.goto 34, 3) := by decide +kernel
theorem dX5_readCount_83 : decode cX5_readCount 83 = .ok (.iload_n 1, 1) := by decide +kernel
theorem dX5_readCount_84 : decode cX5_readCount 84 = .ok (.bipush 62, 2) := by decide +kernel
theorem dX5_readCount_86 : decode cX5_readCount 86 = .ok (.if_icmp .ne 17, 3) := by decide +kernel
theorem dX5_readCount_89 : decode cX5_readCount 89 = .ok (.iload 5, 2) := by decide +kernel
theorem dX5_readCount_91 : decode cX5_readCount 91 = .ok (.iload_n 2, 1) := by decide +kernel
theorem dX5_readCount_92 : decode cX5_readCount 92 = .ok (.if_icmp .le 7, 3) := by decide +kernel
theorem dX5_readCount_95 : decode cX5_readCount 95 = .ok (.iconst 1, 1) := by decide +kernel
theorem dX5_readCount_96 : decode cX5_readCount 96 = .ok (.goto 18, 3) := by decide +kernel
theorem dX5_readCount_99 : decode cX5_readCount 99 = .ok (.iconst 0, 1) := by decide +kernel
theorem dX5_readCount_100 : decode cX5_readCount 100 = .ok (.goto 14, 3) := by decide +kernel
theorem dX5_readCount_103 : decode cX5_readCount 103 = .ok (.iload 5, 2) := by decide +kernel
theorem dX5_readCount_105 : decode cX5_readCount 105 = .ok (.iload_n 2, 1) := by decide +kernel
theorem dX5_readCount_106 : decode cX5_readCount 106 = .ok (.if_icmp .ne 7, 3) := by decide +kernel
theorem dX5_readCount_109 : decode cX5_readCount 109 = .ok (.iconst 1, 1) := by decide +kernel
theorem dX5_readCount_110 : decode cX5_readCount 110 = .ok (.goto 4, 3) := by decide +kernel
theorem dX5_readCount_113 : decode cX5_readCount 113 = .ok (.iconst 0, 1) := by decide +kernel
theorem dX5_readCount_114 : decode cX5_readCount 114 = .ok (.istore 6, 2) := by decide +kernel
theorem dX5_readCount_116 : decode cX5_readCount 116 = .ok (.iload 6, 2) := by decide +kernel
theorem dX5_readCount_118 : decode cX5_readCount 118 = .ok (.ifCond .eq 10, 3) := by decide +kernel
theorem dX5_readCount_121 : decode cX5_readCount 121 = .ok (.iload_n 3, 1) := by decide +kernel
theorem dX5_readCount_122 : decode cX5_readCount 122 = .ok (.iconst 1, 1) := by decide +kernel
theorem dX5_readCount_123 : decode cX5_readCount 123 = .ok (.iload 4, 2) := by decide +kernel
theorem dX5_readCount_125 : decode cX5_readCount 125 = .ok (.ishl, 1) := by decide +kernel
theorem dX5_readCount_126 : decode cX5_readCount 126 = .ok (.ior, 1) := by decide +kernel
theorem dX5_readCount_127 : decode cX5_readCount 127 = .ok (.istore_n 3, 1) := by decide +kernel
theorem dX5_readCount_128 : decode cX5_readCount 128 = .ok (.iinc 4 1, 3) := by decide +kernel
theorem dX5_readCount_131 : decode cX5_readCount 131 = .ok (.goto (-82), 3) := by decide +kernel
theorem dX5_readCount_134 : decode cX5_readCount 134 = .ok (.iload_n 3, 1) := by decide +kernel
theorem dX5_readCount_135 : decode cX5_readCount 135 = .ok (.ireturn, 1) := by decide +kernel
theorem dX5_worldsBad_0 : decode cX5_worldsBad 0 = .ok (.iload_n 0, 1) := by decide +kernel
theorem dX5_worldsBad_1 : decode cX5_worldsBad 1 = .ok (.iconst 4, 1) := by decide +kernel
theorem dX5_worldsBad_2 : decode cX5_worldsBad 2 = .ok (.if_icmp .ge 17, 3) := by decide +kernel
theorem dX5_worldsBad_5 : decode cX5_worldsBad 5 = .ok (.ldc 53, 2) := by decide +kernel
theorem dX5_worldsBad_7 : decode cX5_worldsBad 7 = .ok (.iconst 1, 1) := by decide +kernel
theorem dX5_worldsBad_8 : decode cX5_worldsBad 8 = .ok (.iload_n 0, 1) := by decide +kernel
theorem dX5_worldsBad_9 : decode cX5_worldsBad 9 = .ok (.ishl, 1) := by decide +kernel
theorem dX5_worldsBad_10 : decode cX5_worldsBad 10 = .ok (.iconst 1, 1) := by decide +kernel
theorem dX5_worldsBad_11 : decode cX5_worldsBad 11 = .ok (.iload_n 0, 1) := by decide +kernel
theorem dX5_worldsBad_12 : decode cX5_worldsBad 12 = .ok (.ishl, 1) := by decide +kernel
theorem dX5_worldsBad_13 : decode cX5_worldsBad 13 = .ok (.invokestatic 62, 3) := by decide +kernel
theorem dX5_worldsBad_16 : decode cX5_worldsBad 16 = .ok (.goto 4, 3) := by decide +kernel
theorem dX5_worldsBad_19 : decode cX5_worldsBad 19 = .ok (.iconst 0, 1) := by decide +kernel
theorem dX5_worldsBad_20 : decode cX5_worldsBad 20 = .ok (.ireturn, 1) := by decide +kernel
theorem dX6_failureOf_0 : decode cX6_failureOf 0 = .ok (.iconst 0, 1) := by decide +kernel
theorem dX6_failureOf_1 : decode cX6_failureOf 1 = .ok (.istore 4, 2) := by decide +kernel
theorem dX6_failureOf_3 : decode cX6_failureOf 3 = .ok (.iload 4, 2) := by decide +kernel
theorem dX6_failureOf_5 : decode cX6_failureOf 5 = .ok (.aload_n 0, 1) := by decide +kernel
theorem dX6_failureOf_6 : decode cX6_failureOf 6 = .ok (.arraylength, 1) := by decide +kernel
theorem dX6_failureOf_7 : decode cX6_failureOf 7 = .ok (.if_icmp .ge 29, 3) := by decide +kernel
theorem dX6_failureOf_10 : decode cX6_failureOf 10 = .ok (.aload_n 0, 1) := by decide +kernel
theorem dX6_failureOf_11 : decode cX6_failureOf 11 = .ok (.iload 4, 2) := by decide +kernel
theorem dX6_failureOf_13 : decode cX6_failureOf 13 = .ok (.iaload, 1) := by decide +kernel
theorem dX6_failureOf_14 : decode cX6_failureOf 14 = .ok (.ifCond .lt 13, 3) := by decide +kernel
theorem dX6_failureOf_17 : decode cX6_failureOf 17 = .ok (.aload_n 0, 1) := by decide +kernel
theorem dX6_failureOf_18 : decode cX6_failureOf 18 = .ok (.iload 4, 2) := by decide +kernel
theorem dX6_failureOf_20 : decode cX6_failureOf 20 = .ok (.iaload, 1) := by decide +kernel
theorem dX6_failureOf_21 : decode cX6_failureOf 21 = .ok (.sipush 9999, 3) := by decide +kernel
theorem dX6_failureOf_24 : decode cX6_failureOf 24 = .ok (.if_icmp .le 6, 3) := by decide +kernel
theorem dX6_failureOf_27 : decode cX6_failureOf 27 = .ok (.iload 4, 2) := by decide +kernel
theorem dX6_failureOf_29 : decode cX6_failureOf 29 = .ok (.ireturn, 1) := by decide +kernel
theorem dX6_failureOf_30 : decode cX6_failureOf 30 = .ok (.iinc 4 1, 3) := by decide +kernel
theorem dX6_failureOf_33 : decode cX6_failureOf 33 = .ok (.goto (-30), 3) := by decide +kernel
theorem dX6_failureOf_36 : decode cX6_failureOf 36 = .ok (.iconst 0, 1) := by decide +kernel
theorem dX6_failureOf_37 : decode cX6_failureOf 37 = .ok (.istore 4, 2) := by decide +kernel
theorem dX6_failureOf_39 : decode cX6_failureOf 39 = .ok (.iload 4, 2) := by decide +kernel
theorem dX6_failureOf_41 : decode cX6_failureOf 41 = .ok (.iconst 4, 1) := by decide +kernel
theorem dX6_failureOf_42 : decode cX6_failureOf 42 = .ok (.if_icmp .ge 42, 3) := by decide +kernel
theorem dX6_failureOf_45 : decode cX6_failureOf 45 = .ok (.aload_n 1, 1) := by decide +kernel
theorem dX6_failureOf_46 : decode cX6_failureOf 46 = .ok (.iload 4, 2) := by decide +kernel
theorem dX6_failureOf_48 : decode cX6_failureOf 48 = .ok (.iload_n 2, 1) := by decide +kernel
theorem dX6_failureOf_49 : decode cX6_failureOf 49 = .ok (.iload_n 3, 1) := by decide +kernel
theorem dX6_failureOf_50 : decode cX6_failureOf 50 = .ok (.invokevirtual 9, 3) := by decide +kernel
theorem dX6_failureOf_53 : decode cX6_failureOf 53 = .ok (.ifCond .lt 6, 3) := by decide +kernel
theorem dX6_failureOf_56 : decode cX6_failureOf 56 = .ok (.goto 22, 3) := by decide +kernel
theorem dX6_failureOf_59 : decode cX6_failureOf 59 = .ok (.iload 4, 2) := by decide +kernel
theorem dX6_failureOf_61 : decode cX6_failureOf 61 = .ok (.aload_n 0, 1) := by decide +kernel
theorem dX6_failureOf_62 : decode cX6_failureOf 62 = .ok (.aload_n 1, 1) := by decide +kernel
theorem dX6_failureOf_63 : decode cX6_failureOf 63 = .ok (.iload_n 2, 1) := by decide +kernel
theorem dX6_failureOf_64 : decode cX6_failureOf 64 = .ok (.iload_n 3, 1) := by decide +kernel
theorem dX6_failureOf_65 : decode cX6_failureOf 65 = .ok (.invokestatic 15, 3) := by decide +kernel
theorem dX6_failureOf_68 : decode cX6_failureOf 68 = .ok (.istore 5, 2) := by decide +kernel
theorem dX6_failureOf_70 : decode cX6_failureOf 70 = .ok (.iload 5, 2) := by decide +kernel
theorem dX6_failureOf_72 : decode cX6_failureOf 72 = .ok (.ifCond .lt 6, 3) := by decide +kernel
theorem dX6_failureOf_75 : decode cX6_failureOf 75 = .ok (.iload 5, 2) := by decide +kernel
theorem dX6_failureOf_77 : decode cX6_failureOf 77 = .ok (.ireturn, 1) := by decide +kernel
theorem dX6_failureOf_78 : decode cX6_failureOf 78 = .ok (.iinc 4 1, 3) := by decide +kernel
theorem dX6_failureOf_81 : decode cX6_failureOf 81 = .ok (.goto (-42), 3) := by decide +kernel
theorem dX6_failureOf_84 : decode cX6_failureOf 84 = .ok (.iconst (-1), 1) := by decide +kernel
theorem dX6_failureOf_85 : decode cX6_failureOf 85 = .ok (.ireturn, 1) := by decide +kernel
theorem dX6_failureAt_0 : decode cX6_failureAt 0 = .ok (.aload_n 1, 1) := by decide +kernel
theorem dX6_failureAt_1 : decode cX6_failureAt 1 = .ok (.arraylength, 1) := by decide +kernel
theorem dX6_failureAt_2 : decode cX6_failureAt 2 = .ok (.bipush 12, 2) := by decide +kernel
theorem dX6_failureAt_4 : decode cX6_failureAt 4 = .ok (.if_icmp .ge 5, 3) := by decide +kernel
theorem dX6_failureAt_7 : decode cX6_failureAt 7 = .ok (.iconst (-1), 1) := by decide +kernel
theorem dX6_failureAt_8 : decode cX6_failureAt 8 = .ok (.ireturn, 1) := by decide +kernel
theorem dX6_failureAt_9 : decode cX6_failureAt 9 = .ok (.aload_n 1, 1) := by decide +kernel
theorem dX6_failureAt_10 : decode cX6_failureAt 10 = .ok (.iload_n 0, 1) := by decide +kernel
theorem dX6_failureAt_11 : decode cX6_failureAt 11 = .ok (.iaload, 1) := by decide +kernel
theorem dX6_failureAt_12 : decode cX6_failureAt 12 = .ok (.istore 5, 2) := by decide +kernel
theorem dX6_failureAt_14 : decode cX6_failureAt 14 = .ok (.iconst 0, 1) := by decide +kernel
theorem dX6_failureAt_15 : decode cX6_failureAt 15 = .ok (.istore 6, 2) := by decide +kernel
theorem dX6_failureAt_17 : decode cX6_failureAt 17 = .ok (.iload 6, 2) := by decide +kernel
theorem dX6_failureAt_19 : decode cX6_failureAt 19 = .ok (.iconst 4, 1) := by decide +kernel
theorem dX6_failureAt_20 : decode cX6_failureAt 20 = .ok (.if_icmp .ge 62, 3) := by decide +kernel
theorem dX6_failureAt_23 : decode cX6_failureAt 23 = .ok (.aload_n 2, 1) := by decide +kernel
theorem dX6_failureAt_24 : decode cX6_failureAt 24 = .ok (.getfield 21, 3) := by decide +kernel
theorem dX6_failureAt_27 : decode cX6_failureAt 27 = .ok (.bipush 24, 2) := by decide +kernel
theorem dX6_failureAt_29 : decode cX6_failureAt 29 = .ok (.iload 6, 2) := by decide +kernel
theorem dX6_failureAt_31 : decode cX6_failureAt 31 = .ok (.iconst 4, 1) := by decide +kernel
theorem dX6_failureAt_32 : decode cX6_failureAt 32 = .ok (.imul, 1) := by decide +kernel
theorem dX6_failureAt_33 : decode cX6_failureAt 33 = .ok (.iadd, 1) := by decide +kernel
theorem dX6_failureAt_34 : decode cX6_failureAt 34 = .ok (.iload_n 0, 1) := by decide +kernel
theorem dX6_failureAt_35 : decode cX6_failureAt 35 = .ok (.iadd, 1) := by decide +kernel
theorem dX6_failureAt_36 : decode cX6_failureAt 36 = .ok (.iaload, 1) := by decide +kernel
theorem dX6_failureAt_37 : decode cX6_failureAt 37 = .ok (.istore 7, 2) := by decide +kernel
theorem dX6_failureAt_39 : decode cX6_failureAt 39 = .ok (.aload_n 2, 1) := by decide +kernel
theorem dX6_failureAt_40 : decode cX6_failureAt 40 = .ok (.iload 6, 2) := by decide +kernel
theorem dX6_failureAt_42 : decode cX6_failureAt 42 = .ok (.iload_n 3, 1) := by decide +kernel
theorem dX6_failureAt_43 : decode cX6_failureAt 43 = .ok (.iload 4, 2) := by decide +kernel
theorem dX6_failureAt_45 : decode cX6_failureAt 45 = .ok (.invokevirtual 9, 3) := by decide +kernel
theorem dX6_failureAt_48 : decode cX6_failureAt 48 = .ok (.ifCond .le 28, 3) := by decide +kernel
theorem dX6_failureAt_51 : decode cX6_failureAt 51 = .ok (.iload 5, 2) := by decide +kernel
theorem dX6_failureAt_53 : decode cX6_failureAt 53 = .ok (.aload_n 1, 1) := by decide +kernel
theorem dX6_failureAt_54 : decode cX6_failureAt 54 = .ok (.iconst 4, 1) := by decide +kernel
theorem dX6_failureAt_55 : decode cX6_failureAt 55 = .ok (.iload 6, 2) := by decide +kernel
theorem dX6_failureAt_57 : decode cX6_failureAt 57 = .ok (.iadd, 1) := by decide +kernel
theorem dX6_failureAt_58 : decode cX6_failureAt 58 = .ok (.iaload, 1) := by decide +kernel
theorem dX6_failureAt_59 : decode cX6_failureAt 59 = .ok (.iload 7, 2) := by decide +kernel
theorem dX6_failureAt_61 : decode cX6_failureAt 61 = .ok (.iadd, 1) := by decide +kernel
theorem dX6_failureAt_62 : decode cX6_failureAt 62 = .ok (.if_icmp .le 14, 3) := by decide +kernel
theorem dX6_failureAt_65 : decode cX6_failureAt 65 = .ok (.bipush 100, 2) := by decide +kernel
theorem dX6_failureAt_67 : decode cX6_failureAt 67 = .ok (.bipush 10, 2) := by decide +kernel
theorem dX6_failureAt_69 : decode cX6_failureAt 69 = .ok (.iload 6, 2) := by decide +kernel
theorem dX6_failureAt_71 : decode cX6_failureAt 71 = .ok (.imul, 1) := by decide +kernel
theorem dX6_failureAt_72 : decode cX6_failureAt 72 = .ok (.iadd, 1) := by decide +kernel
theorem dX6_failureAt_73 : decode cX6_failureAt 73 = .ok (.iload_n 0, 1) := by decide +kernel
theorem dX6_failureAt_74 : decode cX6_failureAt 74 = .ok (.iadd, 1) := by decide +kernel
theorem dX6_failureAt_75 : decode cX6_failureAt 75 = .ok (.ireturn, 1) := by decide +kernel
theorem dX6_failureAt_76 : decode cX6_failureAt 76 = .ok (.iinc 6 1, 3) := by decide +kernel
theorem dX6_failureAt_79 : decode cX6_failureAt 79 = .ok (.goto (-62), 3) := by decide +kernel
theorem dX6_failureAt_82 : decode cX6_failureAt 82 = .ok (.iload 5, 2) := by decide +kernel
theorem dX6_failureAt_84 : decode cX6_failureAt 84 = .ok (.aload_n 1, 1) := by decide +kernel
theorem dX6_failureAt_85 : decode cX6_failureAt 85 = .ok (.bipush 8, 2) := by decide +kernel
theorem dX6_failureAt_87 : decode cX6_failureAt 87 = .ok (.iload_n 0, 1) := by decide +kernel
theorem dX6_failureAt_88 : decode cX6_failureAt 88 = .ok (.iadd, 1) := by decide +kernel
theorem dX6_failureAt_89 : decode cX6_failureAt 89 = .ok (.iaload, 1) := by decide +kernel
theorem dX6_failureAt_90 : decode cX6_failureAt 90 = .ok (.aload_n 2, 1) := by decide +kernel
theorem dX6_failureAt_91 : decode cX6_failureAt 91 = .ok (.getfield 21, 3) := by decide +kernel
theorem dX6_failureAt_94 : decode cX6_failureAt 94 = .ok (.iload_n 0, 1) := by decide +kernel
theorem dX6_failureAt_95 : decode cX6_failureAt 95 = .ok (.bipush 6, 2) := by decide +kernel
theorem dX6_failureAt_97 : decode cX6_failureAt 97 = .ok (.imul, 1) := by decide +kernel
theorem dX6_failureAt_98 : decode cX6_failureAt 98 = .ok (.iconst 3, 1) := by decide +kernel
theorem dX6_failureAt_99 : decode cX6_failureAt 99 = .ok (.iadd, 1) := by decide +kernel
theorem dX6_failureAt_100 : decode cX6_failureAt 100 = .ok (.iaload, 1) := by decide +kernel
theorem dX6_failureAt_101 : decode cX6_failureAt 101 = .ok (.iadd, 1) := by decide +kernel
theorem dX6_failureAt_102 : decode cX6_failureAt 102 = .ok (.if_icmp .le 9, 3) := by decide +kernel
theorem dX6_failureAt_105 : decode cX6_failureAt 105 = .ok (.sipush 200, 3) := by decide +kernel
theorem dX6_failureAt_108 : decode cX6_failureAt 108 = .ok (.iload_n 0, 1) := by decide +kernel
theorem dX6_failureAt_109 : decode cX6_failureAt 109 = .ok (.iadd, 1) := by decide +kernel
theorem dX6_failureAt_110 : decode cX6_failureAt 110 = .ok (.ireturn, 1) := by decide +kernel
theorem dX6_failureAt_111 : decode cX6_failureAt 111 = .ok (.iload 5, 2) := by decide +kernel
theorem dX6_failureAt_113 : decode cX6_failureAt 113 = .ok (.aload_n 2, 1) := by decide +kernel
theorem dX6_failureAt_114 : decode cX6_failureAt 114 = .ok (.getfield 21, 3) := by decide +kernel
theorem dX6_failureAt_117 : decode cX6_failureAt 117 = .ok (.bipush 41, 2) := by decide +kernel
theorem dX6_failureAt_119 : decode cX6_failureAt 119 = .ok (.iaload, 1) := by decide +kernel
theorem dX6_failureAt_120 : decode cX6_failureAt 120 = .ok (.if_icmp .le 11, 3) := by decide +kernel
theorem dX6_failureAt_123 : decode cX6_failureAt 123 = .ok (.sipush 300, 3) := by decide +kernel
theorem dX6_failureAt_126 : decode cX6_failureAt 126 = .ok (.iload_n 0, 1) := by decide +kernel
theorem dX6_failureAt_127 : decode cX6_failureAt 127 = .ok (.iadd, 1) := by decide +kernel
theorem dX6_failureAt_128 : decode cX6_failureAt 128 = .ok (.goto 4, 3) := by decide +kernel
theorem dX6_failureAt_131 : decode cX6_failureAt 131 = .ok (.iconst (-1), 1) := by decide +kernel
theorem dX6_failureAt_132 : decode cX6_failureAt 132 = .ok (.ireturn, 1) := by decide +kernel
theorem dX6_worthOf_0 : decode cX6_worthOf 0 = .ok (.aload_n 0, 1) := by decide +kernel
theorem dX6_worthOf_1 : decode cX6_worthOf 1 = .ok (.arraylength, 1) := by decide +kernel
theorem dX6_worthOf_2 : decode cX6_worthOf 2 = .ok (.bipush 12, 2) := by decide +kernel
theorem dX6_worthOf_4 : decode cX6_worthOf 4 = .ok (.if_icmp .ge 5, 3) := by decide +kernel
theorem dX6_worthOf_7 : decode cX6_worthOf 7 = .ok (.iconst 0, 1) := by decide +kernel
theorem dX6_worthOf_8 : decode cX6_worthOf 8 = .ok (.ireturn, 1) := by decide +kernel
theorem dX6_worthOf_9 : decode cX6_worthOf 9 = .ok (.iconst 0, 1) := by decide +kernel
theorem dX6_worthOf_10 : decode cX6_worthOf 10 = .ok (.istore 4, 2) := by decide +kernel
theorem dX6_worthOf_12 : decode cX6_worthOf 12 = .ok (.iconst 0, 1) := by decide +kernel
theorem dX6_worthOf_13 : decode cX6_worthOf 13 = .ok (.istore 5, 2) := by decide +kernel
theorem dX6_worthOf_15 : decode cX6_worthOf 15 = .ok (.iload 5, 2) := by decide +kernel
theorem dX6_worthOf_17 : decode cX6_worthOf 17 = .ok (.iconst 4, 1) := by decide +kernel
theorem dX6_worthOf_18 : decode cX6_worthOf 18 = .ok (.if_icmp .ge 76, 3) := by decide +kernel
theorem dX6_worthOf_21 : decode cX6_worthOf 21 = .ok (.aload_n 1, 1) := by decide +kernel
theorem dX6_worthOf_22 : decode cX6_worthOf 22 = .ok (.iload 5, 2) := by decide +kernel
theorem dX6_worthOf_24 : decode cX6_worthOf 24 = .ok (.iload_n 2, 1) := by decide +kernel
theorem dX6_worthOf_25 : decode cX6_worthOf 25 = .ok (.iload_n 3, 1) := by decide +kernel
theorem dX6_worthOf_26 : decode cX6_worthOf 26 = .ok (.invokevirtual 9, 3) := by decide +kernel
theorem dX6_worthOf_29 : decode cX6_worthOf 29 = .ok (.istore 6, 2) := by decide +kernel
theorem dX6_worthOf_31 : decode cX6_worthOf 31 = .ok (.iload 6, 2) := by decide +kernel
theorem dX6_worthOf_33 : decode cX6_worthOf 33 = .ok (.ifCond .le 17, 3) := by decide +kernel
theorem dX6_worthOf_36 : decode cX6_worthOf 36 = .ok (.iload 4, 2) := by decide +kernel
theorem dX6_worthOf_38 : decode cX6_worthOf 38 = .ok (.aload_n 0, 1) := by decide +kernel
theorem dX6_worthOf_39 : decode cX6_worthOf 39 = .ok (.iconst 4, 1) := by decide +kernel
theorem dX6_worthOf_40 : decode cX6_worthOf 40 = .ok (.iload 5, 2) := by decide +kernel
theorem dX6_worthOf_42 : decode cX6_worthOf 42 = .ok (.iadd, 1) := by decide +kernel
theorem dX6_worthOf_43 : decode cX6_worthOf 43 = .ok (.iaload, 1) := by decide +kernel
theorem dX6_worthOf_44 : decode cX6_worthOf 44 = .ok (.iload 6, 2) := by decide +kernel
theorem dX6_worthOf_46 : decode cX6_worthOf 46 = .ok (.imul, 1) := by decide +kernel
theorem dX6_worthOf_47 : decode cX6_worthOf 47 = .ok (.isub, 1) := by decide +kernel
theorem dX6_worthOf_48 : decode cX6_worthOf 48 = .ok (.istore 4, 2) := by decide +kernel
theorem dX6_worthOf_50 : decode cX6_worthOf 50 = .ok (.iload 6, 2) := by decide +kernel
theorem dX6_worthOf_52 : decode cX6_worthOf 52 = .ok (.ifCond .ge 36, 3) := by decide +kernel
theorem dX6_worthOf_55 : decode cX6_worthOf 55 = .ok (.iload 4, 2) := by decide +kernel
theorem dX6_worthOf_57 : decode cX6_worthOf 57 = .ok (.aload_n 0, 1) := by decide +kernel
theorem dX6_worthOf_58 : decode cX6_worthOf 58 = .ok (.iload 5, 2) := by decide +kernel
theorem dX6_worthOf_60 : decode cX6_worthOf 60 = .ok (.iaload, 1) := by decide +kernel
theorem dX6_worthOf_61 : decode cX6_worthOf 61 = .ok (.iload 6, 2) := by decide +kernel
theorem dX6_worthOf_63 : decode cX6_worthOf 63 = .ok (.imul, 1) := by decide +kernel
theorem dX6_worthOf_64 : decode cX6_worthOf 64 = .ok (.aload_n 0, 1) := by decide +kernel
theorem dX6_worthOf_65 : decode cX6_worthOf 65 = .ok (.bipush 8, 2) := by decide +kernel
theorem dX6_worthOf_67 : decode cX6_worthOf 67 = .ok (.iload 5, 2) := by decide +kernel
theorem dX6_worthOf_69 : decode cX6_worthOf 69 = .ok (.iadd, 1) := by decide +kernel
theorem dX6_worthOf_70 : decode cX6_worthOf 70 = .ok (.iaload, 1) := by decide +kernel
theorem dX6_worthOf_71 : decode cX6_worthOf 71 = .ok (.aload_n 1, 1) := by decide +kernel
theorem dX6_worthOf_72 : decode cX6_worthOf 72 = .ok (.getfield 21, 3) := by decide +kernel
theorem dX6_worthOf_75 : decode cX6_worthOf 75 = .ok (.iload 5, 2) := by decide +kernel
theorem dX6_worthOf_77 : decode cX6_worthOf 77 = .ok (.bipush 6, 2) := by decide +kernel
theorem dX6_worthOf_79 : decode cX6_worthOf 79 = .ok (.imul, 1) := by decide +kernel
theorem dX6_worthOf_80 : decode cX6_worthOf 80 = .ok (.iconst 4, 1) := by decide +kernel
theorem dX6_worthOf_81 : decode cX6_worthOf 81 = .ok (.iadd, 1) := by decide +kernel
theorem dX6_worthOf_82 : decode cX6_worthOf 82 = .ok (.iaload, 1) := by decide +kernel
theorem dX6_worthOf_83 : decode cX6_worthOf 83 = .ok (.imul, 1) := by decide +kernel
theorem dX6_worthOf_84 : decode cX6_worthOf 84 = .ok (.iadd, 1) := by decide +kernel
theorem dX6_worthOf_85 : decode cX6_worthOf 85 = .ok (.isub, 1) := by decide +kernel
theorem dX6_worthOf_86 : decode cX6_worthOf 86 = .ok (.istore 4, 2) := by decide +kernel
theorem dX6_worthOf_88 : decode cX6_worthOf 88 = .ok (.iinc 5 1, 3) := by decide +kernel
