theorem dX6_worthOf_91 : decode cX6_worthOf 91 = .ok (.goto (-76), 3) := by decide +kernel
theorem dX6_worthOf_94 : decode cX6_worthOf 94 = .ok (.iconst 0, 1) := by decide +kernel
theorem dX6_worthOf_95 : decode cX6_worthOf 95 = .ok (.iload 4, 2) := by decide +kernel
theorem dX6_worthOf_97 : decode cX6_worthOf 97 = .ok (.invokestatic 25, 3) := by decide +kernel
theorem dX6_worthOf_100 : decode cX6_worthOf 100 = .ok (.ireturn, 1) := by decide +kernel
theorem dX7_init_0 : decode cX7_init 0 = .ok (.aload_n 0, 1) := by decide +kernel
theorem dX7_init_1 : decode cX7_init 1 = .ok (.invokespecial 3, 3) := by decide +kernel
theorem dX7_init_4 : decode cX7_init 4 = .ok (.aload_n 0, 1) := by decide +kernel
theorem dX7_init_5 : decode cX7_init 5 = .ok (.bipush 40, 2) := by decide +kernel
theorem dX7_init_7 : decode cX7_init 7 = .ok (.newarray .int, 2) := by decide +kernel
theorem dX7_init_9 : decode cX7_init 9 = .ok (.putfield 9, 3) := by decide +kernel
theorem dX7_init_12 : decode cX7_init 12 = .ok (.aload_n 0, 1) := by decide +kernel
theorem dX7_init_13 : decode cX7_init 13 = .ok (.iconst 0, 1) := by decide +kernel
theorem dX7_init_14 : decode cX7_init 14 = .ok (.putfield 15, 3) := by decide +kernel
theorem dX7_init_17 : decode cX7_init 17 = .ok (.return_, 1) := by decide +kernel
theorem dX7_copy_0 : decode cX7_copy 0 = .ok (.aload_n 1, 1) := by decide +kernel
theorem dX7_copy_1 : decode cX7_copy 1 = .ok (.getfield 9, 3) := by decide +kernel
theorem dX7_copy_4 : decode cX7_copy 4 = .ok (.iconst 0, 1) := by decide +kernel
theorem dX7_copy_5 : decode cX7_copy 5 = .ok (.aload_n 0, 1) := by decide +kernel
theorem dX7_copy_6 : decode cX7_copy 6 = .ok (.getfield 9, 3) := by decide +kernel
theorem dX7_copy_9 : decode cX7_copy 9 = .ok (.iconst 0, 1) := by decide +kernel
theorem dX7_copy_10 : decode cX7_copy 10 = .ok (.bipush 40, 2) := by decide +kernel
theorem dX7_copy_12 : decode cX7_copy 12 = .ok (.invokestatic 19, 3) := by decide +kernel
theorem dX7_copy_15 : decode cX7_copy 15 = .ok (.aload_n 0, 1) := by decide +kernel
theorem dX7_copy_16 : decode cX7_copy 16 = .ok (.aload_n 1, 1) := by decide +kernel
theorem dX7_copy_17 : decode cX7_copy 17 = .ok (.getfield 15, 3) := by decide +kernel
theorem dX7_copy_20 : decode cX7_copy 20 = .ok (.putfield 15, 3) := by decide +kernel
theorem dX7_copy_23 : decode cX7_copy 23 = .ok (.return_, 1) := by decide +kernel
theorem dX7_add_0 : decode cX7_add 0 = .ok (.aload_n 0, 1) := by decide +kernel
theorem dX7_add_1 : decode cX7_add 1 = .ok (.getfield 15, 3) := by decide +kernel
theorem dX7_add_4 : decode cX7_add 4 = .ok (.bipush 40, 2) := by decide +kernel
theorem dX7_add_6 : decode cX7_add 6 = .ok (.if_icmp .lt 4, 3) := by decide +kernel
theorem dX7_add_9 : decode cX7_add 9 = .ok (.return_, 1) := by decide +kernel
theorem dX7_add_10 : decode cX7_add 10 = .ok (.aload_n 0, 1) := by decide +kernel
theorem dX7_add_11 : decode cX7_add 11 = .ok (.getfield 9, 3) := by decide +kernel
theorem dX7_add_14 : decode cX7_add 14 = .ok (.aload_n 0, 1) := by decide +kernel
theorem dX7_add_15 : decode cX7_add 15 = .ok (.getfield 15, 3) := by decide +kernel
theorem dX7_add_18 : decode cX7_add 18 = .ok (.iload_n 1, 1) := by decide +kernel
theorem dX7_add_19 : decode cX7_add 19 = .ok (.iastore, 1) := by decide +kernel
theorem dX7_add_20 : decode cX7_add 20 = .ok (.aload_n 0, 1) := by decide +kernel
theorem dX7_add_21 : decode cX7_add 21 = .ok (.dup, 1) := by decide +kernel
theorem dX7_add_22 : decode cX7_add 22 = .ok (.getfield 15, 3) := by decide +kernel
theorem dX7_add_25 : decode cX7_add 25 = .ok (.iconst 1, 1) := by decide +kernel
theorem dX7_add_26 : decode cX7_add 26 = .ok (.iadd, 1) := by decide +kernel
theorem dX7_add_27 : decode cX7_add 27 = .ok (.putfield 15, 3) := by decide +kernel
theorem dX7_add_30 : decode cX7_add 30 = .ok (.return_, 1) := by decide +kernel
theorem dX7_value_0 : decode cX7_value 0 = .ok (.iconst 0, 1) := by decide +kernel
theorem dX7_value_1 : decode cX7_value 1 = .ok (.istore 4, 2) := by decide +kernel
theorem dX7_value_3 : decode cX7_value 3 = .ok (.iconst 0, 1) := by decide +kernel
theorem dX7_value_4 : decode cX7_value 4 = .ok (.istore 5, 2) := by decide +kernel
theorem dX7_value_6 : decode cX7_value 6 = .ok (.iload 5, 2) := by decide +kernel
theorem dX7_value_8 : decode cX7_value 8 = .ok (.aload_n 0, 1) := by decide +kernel
theorem dX7_value_9 : decode cX7_value 9 = .ok (.getfield 15, 3) := by decide +kernel
theorem dX7_value_12 : decode cX7_value 12 = .ok (.if_icmp .ge 91, 3) := by decide +kernel
theorem dX7_value_15 : decode cX7_value 15 = .ok (.iload 5, 2) := by decide +kernel
theorem dX7_value_17 : decode cX7_value 17 = .ok (.bipush 40, 2) := by decide +kernel
theorem dX7_value_19 : decode cX7_value 19 = .ok (.if_icmp .ge 84, 3) := by decide +kernel
theorem dX7_value_22 : decode cX7_value 22 = .ok (.aload_n 0, 1) := by decide +kernel
theorem dX7_value_23 : decode cX7_value 23 = .ok (.getfield 9, 3) := by decide +kernel
theorem dX7_value_26 : decode cX7_value 26 = .ok (.iload 5, 2) := by decide +kernel
theorem dX7_value_28 : decode cX7_value 28 = .ok (.iaload, 1) := by decide +kernel
theorem dX7_value_29 : decode cX7_value 29 = .ok (.istore 6, 2) := by decide +kernel
theorem dX7_value_31 : decode cX7_value 31 = .ok (.iload 6, 2) := by decide +kernel
theorem dX7_value_33 : decode cX7_value 33 = .ok (.sipush 1020, 3) := by decide +kernel
theorem dX7_value_36 : decode cX7_value 36 = .ok (.if_icmp .ge 29, 3) := by decide +kernel
theorem dX7_value_39 : decode cX7_value 39 = .ok (.iload 4, 2) := by decide +kernel
theorem dX7_value_41 : decode cX7_value 41 = .ok (.aload_n 3, 1) := by decide +kernel
theorem dX7_value_42 : decode cX7_value 42 = .ok (.arraylength, 1) := by decide +kernel
theorem dX7_value_43 : decode cX7_value 43 = .ok (.if_icmp .lt 5, 3) := by decide +kernel
theorem dX7_value_46 : decode cX7_value 46 = .ok (.iconst 0, 1) := by decide +kernel
theorem dX7_value_47 : decode cX7_value 47 = .ok (.ireturn, 1) := by decide +kernel
theorem dX7_value_48 : decode cX7_value 48 = .ok (.aload_n 3, 1) := by decide +kernel
theorem dX7_value_49 : decode cX7_value 49 = .ok (.iload 4, 2) := by decide +kernel
theorem dX7_value_51 : decode cX7_value 51 = .ok (.iload 6, 2) := by decide +kernel
theorem dX7_value_53 : decode cX7_value 53 = .ok (.iload_n 1, 1) := by decide +kernel
theorem dX7_value_54 : decode cX7_value 54 = .ok (.iload_n 2, 1) := by decide +kernel
theorem dX7_value_55 : decode cX7_value 55 = .ok (.invokestatic 25, 3) := by decide +kernel
theorem dX7_value_58 : decode cX7_value 58 = .ok (.iastore, 1) := by decide +kernel
theorem dX7_value_59 : decode cX7_value 59 = .ok (.iinc 4 1, 3) := by decide +kernel
theorem dX7_value_62 : decode cX7_value 62 = .ok (.goto 35, 3) := by decide +kernel
theorem dX7_value_65 : decode cX7_value 65 = .ok (.iload 4, 2) := by decide +kernel
theorem dX7_value_67 : decode cX7_value 67 = .ok (.iconst 2, 1) := by decide +kernel
theorem dX7_value_68 : decode cX7_value 68 = .ok (.if_icmp .ge 5, 3) := by decide +kernel
theorem dX7_value_71 : decode cX7_value 71 = .ok (.iconst 0, 1) := by decide +kernel
theorem dX7_value_72 : decode cX7_value 72 = .ok (.ireturn, 1) := by decide +kernel
theorem dX7_value_73 : decode cX7_value 73 = .ok (.iinc 4 (-1), 3) := by decide +kernel
theorem dX7_value_76 : decode cX7_value 76 = .ok (.aload_n 3, 1) := by decide +kernel
theorem dX7_value_77 : decode cX7_value 77 = .ok (.iload 4, 2) := by decide +kernel
theorem dX7_value_79 : decode cX7_value 79 = .ok (.iconst 1, 1) := by decide +kernel
theorem dX7_value_80 : decode cX7_value 80 = .ok (.isub, 1) := by decide +kernel
theorem dX7_value_81 : decode cX7_value 81 = .ok (.iload 6, 2) := by decide +kernel
theorem dX7_value_83 : decode cX7_value 83 = .ok (.aload_n 3, 1) := by decide +kernel
theorem dX7_value_84 : decode cX7_value 84 = .ok (.iload 4, 2) := by decide +kernel
theorem dX7_value_86 : decode cX7_value 86 = .ok (.iconst 1, 1) := by decide +kernel
theorem dX7_value_87 : decode cX7_value 87 = .ok (.isub, 1) := by decide +kernel
theorem dX7_value_88 : decode cX7_value 88 = .ok (.iaload, 1) := by decide +kernel
theorem dX7_value_89 : decode cX7_value 89 = .ok (.aload_n 3, 1) := by decide +kernel
theorem dX7_value_90 : decode cX7_value 90 = .ok (.iload 4, 2) := by decide +kernel
theorem dX7_value_92 : decode cX7_value 92 = .ok (.iaload, 1) := by decide +kernel
theorem dX7_value_93 : decode cX7_value 93 = .ok (.invokestatic 29, 3) := by decide +kernel
theorem dX7_value_96 : decode cX7_value 96 = .ok (.iastore, 1) := by decide +kernel
theorem dX7_value_97 : decode cX7_value 97 = .ok (.iinc 5 1, 3) := by decide +kernel
theorem dX7_value_100 : decode cX7_value 100 = .ok (.goto (-94), 3) := by decide +kernel
theorem dX7_value_103 : decode cX7_value 103 = .ok (.iload 4, 2) := by decide +kernel
theorem dX7_value_105 : decode cX7_value 105 = .ok (.ifCond .le 12, 3) := by decide +kernel
theorem dX7_value_108 : decode cX7_value 108 = .ok (.aload_n 3, 1) := by decide +kernel
theorem dX7_value_109 : decode cX7_value 109 = .ok (.iload 4, 2) := by decide +kernel
theorem dX7_value_111 : decode cX7_value 111 = .ok (.iconst 1, 1) := by decide +kernel
theorem dX7_value_112 : decode cX7_value 112 = .ok (.isub, 1) := by decide +kernel
theorem dX7_value_113 : decode cX7_value 113 = .ok (.iaload, 1) := by decide +kernel
theorem dX7_value_114 : decode cX7_value 114 = .ok (.goto 4, 3) := by decide +kernel
theorem dX7_value_117 : decode cX7_value 117 = .ok (.iconst 0, 1) := by decide +kernel
theorem dX7_value_118 : decode cX7_value 118 = .ok (.ireturn, 1) := by decide +kernel
theorem dX7_valueOf_0 : decode cX7_valueOf 0 = .ok (.iload_n 0, 1) := by decide +kernel
theorem dX7_valueOf_1 : decode cX7_valueOf 1 = .ok (.sipush 1000, 3) := by decide +kernel
theorem dX7_valueOf_4 : decode cX7_valueOf 4 = .ok (.if_icmp .ge 5, 3) := by decide +kernel
theorem dX7_valueOf_7 : decode cX7_valueOf 7 = .ok (.iload_n 0, 1) := by decide +kernel
theorem dX7_valueOf_8 : decode cX7_valueOf 8 = .ok (.ireturn, 1) := by decide +kernel
theorem dX7_valueOf_9 : decode cX7_valueOf 9 = .ok (.iload_n 0, 1) := by decide +kernel
theorem dX7_valueOf_10 : decode cX7_valueOf 10 = .ok (.sipush 1010, 3) := by decide +kernel
theorem dX7_valueOf_13 : decode cX7_valueOf 13 = .ok (.if_icmp .ge 17, 3) := by decide +kernel
theorem dX7_valueOf_16 : decode cX7_valueOf 16 = .ok (.iload_n 1, 1) := by decide +kernel
theorem dX7_valueOf_17 : decode cX7_valueOf 17 = .ok (.iconst 2, 1) := by decide +kernel
theorem dX7_valueOf_18 : decode cX7_valueOf 18 = .ok (.iload_n 0, 1) := by decide +kernel
theorem dX7_valueOf_19 : decode cX7_valueOf 19 = .ok (.sipush 1000, 3) := by decide +kernel
theorem dX7_valueOf_22 : decode cX7_valueOf 22 = .ok (.isub, 1) := by decide +kernel
theorem dX7_valueOf_23 : decode cX7_valueOf 23 = .ok (.imul, 1) := by decide +kernel
theorem dX7_valueOf_24 : decode cX7_valueOf 24 = .ok (.ishr, 1) := by decide +kernel
theorem dX7_valueOf_25 : decode cX7_valueOf 25 = .ok (.iconst 3, 1) := by decide +kernel
theorem dX7_valueOf_26 : decode cX7_valueOf 26 = .ok (.iand, 1) := by decide +kernel
theorem dX7_valueOf_27 : decode cX7_valueOf 27 = .ok (.goto 12, 3) := by decide +kernel
theorem dX7_valueOf_30 : decode cX7_valueOf 30 = .ok (.iload_n 2, 1) := by decide +kernel
theorem dX7_valueOf_31 : decode cX7_valueOf 31 = .ok (.iload_n 0, 1) := by decide +kernel
theorem dX7_valueOf_32 : decode cX7_valueOf 32 = .ok (.sipush 1010, 3) := by decide +kernel
theorem dX7_valueOf_35 : decode cX7_valueOf 35 = .ok (.isub, 1) := by decide +kernel
theorem dX7_valueOf_36 : decode cX7_valueOf 36 = .ok (.ishr, 1) := by decide +kernel
theorem dX7_valueOf_37 : decode cX7_valueOf 37 = .ok (.iconst 1, 1) := by decide +kernel
theorem dX7_valueOf_38 : decode cX7_valueOf 38 = .ok (.iand, 1) := by decide +kernel
theorem dX7_valueOf_39 : decode cX7_valueOf 39 = .ok (.ireturn, 1) := by decide +kernel
theorem dX7_joined_0 : decode cX7_joined 0 = .ok (.iload_n 0, 1) := by decide +kernel
theorem dX7_joined_1 : decode cX7_joined 1 = .ok (.sipush 1022, 3) := by decide +kernel
theorem dX7_joined_4 : decode cX7_joined 4 = .ok (.if_icmp .ne 7, 3) := by decide +kernel
theorem dX7_joined_7 : decode cX7_joined 7 = .ok (.iload_n 1, 1) := by decide +kernel
theorem dX7_joined_8 : decode cX7_joined 8 = .ok (.iload_n 2, 1) := by decide +kernel
theorem dX7_joined_9 : decode cX7_joined 9 = .ok (.imul, 1) := by decide +kernel
theorem dX7_joined_10 : decode cX7_joined 10 = .ok (.ireturn, 1) := by decide +kernel
theorem dX7_joined_11 : decode cX7_joined 11 = .ok (.iload_n 0, 1) := by decide +kernel
theorem dX7_joined_12 : decode cX7_joined 12 = .ok (.sipush 1020, 3) := by decide +kernel
theorem dX7_joined_15 : decode cX7_joined 15 = .ok (.if_icmp .ne 9, 3) := by decide +kernel
theorem dX7_joined_18 : decode cX7_joined 18 = .ok (.iload_n 1, 1) := by decide +kernel
theorem dX7_joined_19 : decode cX7_joined 19 = .ok (.iload_n 2, 1) := by decide +kernel
theorem dX7_joined_20 : decode cX7_joined 20 = .ok (.iadd, 1) := by decide +kernel
theorem dX7_joined_21 : decode cX7_joined 21 = .ok (.goto 6, 3) := by decide +kernel
theorem dX7_joined_24 : decode cX7_joined 24 = .ok (.iload_n 1, 1) := by decide +kernel
theorem dX7_joined_25 : decode cX7_joined 25 = .ok (.iload_n 2, 1) := by decide +kernel
theorem dX7_joined_26 : decode cX7_joined 26 = .ok (.isub, 1) := by decide +kernel
theorem dX7_joined_27 : decode cX7_joined 27 = .ok (.ireturn, 1) := by decide +kernel
theorem dX8_init_0 : decode cX8_init 0 = .ok (.aload_n 0, 1) := by decide +kernel
theorem dX8_init_1 : decode cX8_init 1 = .ok (.invokespecial 3, 3) := by decide +kernel
theorem dX8_init_4 : decode cX8_init 4 = .ok (.aload_n 0, 1) := by decide +kernel
theorem dX8_init_5 : decode cX8_init 5 = .ok (.new 9, 3) := by decide +kernel
theorem dX8_init_8 : decode cX8_init 8 = .ok (.dup, 1) := by decide +kernel
theorem dX8_init_9 : decode cX8_init 9 = .ok (.invokespecial 11, 3) := by decide +kernel
theorem dX8_init_12 : decode cX8_init 12 = .ok (.putfield 12, 3) := by decide +kernel
theorem dX8_init_15 : decode cX8_init 15 = .ok (.aload_n 0, 1) := by decide +kernel
theorem dX8_init_16 : decode cX8_init 16 = .ok (.bipush 40, 2) := by decide +kernel
theorem dX8_init_18 : decode cX8_init 18 = .ok (.newarray .int, 2) := by decide +kernel
theorem dX8_init_20 : decode cX8_init 20 = .ok (.putfield 18, 3) := by decide +kernel
theorem dX8_init_23 : decode cX8_init 23 = .ok (.aload_n 0, 1) := by decide +kernel
theorem dX8_init_24 : decode cX8_init 24 = .ok (.iconst 0, 1) := by decide +kernel
theorem dX8_init_25 : decode cX8_init 25 = .ok (.putfield 22, 3) := by decide +kernel
theorem dX8_init_28 : decode cX8_init 28 = .ok (.aload_n 0, 1) := by decide +kernel
theorem dX8_init_29 : decode cX8_init 29 = .ok (.aload_n 1, 1) := by decide +kernel
theorem dX8_init_30 : decode cX8_init 30 = .ok (.putfield 26, 3) := by decide +kernel
theorem dX8_init_33 : decode cX8_init 33 = .ok (.return_, 1) := by decide +kernel
theorem dX8_costOf_0 : decode cX8_costOf 0 = .ok (.aload_n 0, 1) := by decide +kernel
theorem dX8_costOf_1 : decode cX8_costOf 1 = .ok (.getfield 26, 3) := by decide +kernel
theorem dX8_costOf_4 : decode cX8_costOf 4 = .ok (.iload_n 1, 1) := by decide +kernel
theorem dX8_costOf_5 : decode cX8_costOf 5 = .ok (.invokevirtual 30, 3) := by decide +kernel
theorem dX8_costOf_8 : decode cX8_costOf 8 = .ok (.istore_n 3, 1) := by decide +kernel
theorem dX8_costOf_9 : decode cX8_costOf 9 = .ok (.iconst 0, 1) := by decide +kernel
theorem dX8_costOf_10 : decode cX8_costOf 10 = .ok (.istore 4, 2) := by decide +kernel
theorem dX8_costOf_12 : decode cX8_costOf 12 = .ok (.iload 4, 2) := by decide +kernel
theorem dX8_costOf_14 : decode cX8_costOf 14 = .ok (.iconst 4, 1) := by decide +kernel
theorem dX8_costOf_15 : decode cX8_costOf 15 = .ok (.if_icmp .ge 75, 3) := by decide +kernel
theorem dX8_costOf_18 : decode cX8_costOf 18 = .ok (.aload_n 0, 1) := by decide +kernel
theorem dX8_costOf_19 : decode cX8_costOf 19 = .ok (.iload 4, 2) := by decide +kernel
theorem dX8_costOf_21 : decode cX8_costOf 21 = .ok (.iload_n 1, 1) := by decide +kernel
theorem dX8_costOf_22 : decode cX8_costOf 22 = .ok (.iload_n 2, 1) := by decide +kernel
theorem dX8_costOf_23 : decode cX8_costOf 23 = .ok (.invokevirtual 36, 3) := by decide +kernel
theorem dX8_costOf_26 : decode cX8_costOf 26 = .ok (.istore 5, 2) := by decide +kernel
theorem dX8_costOf_28 : decode cX8_costOf 28 = .ok (.iconst 0, 1) := by decide +kernel
theorem dX8_costOf_29 : decode cX8_costOf 29 = .ok (.aload_n 0, 1) := by decide +kernel
theorem dX8_costOf_30 : decode cX8_costOf 30 = .ok (.getfield 26, 3) := by decide +kernel
theorem dX8_costOf_33 : decode cX8_costOf 33 = .ok (.iload 4, 2) := by decide +kernel
theorem dX8_costOf_35 : decode cX8_costOf 35 = .ok (.iload_n 1, 1) := by decide +kernel
theorem dX8_costOf_36 : decode cX8_costOf 36 = .ok (.iload_n 2, 1) := by decide +kernel
theorem dX8_costOf_37 : decode cX8_costOf 37 = .ok (.invokevirtual 40, 3) := by decide +kernel
theorem dX8_costOf_40 : decode cX8_costOf 40 = .ok (.ineg, 1) := by decide +kernel
theorem dX8_costOf_41 : decode cX8_costOf 41 = .ok (.iload 5, 2) := by decide +kernel
theorem dX8_costOf_43 : decode cX8_costOf 43 = .ok (.isub, 1) := by decide +kernel
theorem dX8_costOf_44 : decode cX8_costOf 44 = .ok (.invokestatic 43, 3) := by decide +kernel
theorem dX8_costOf_47 : decode cX8_costOf 47 = .ok (.istore 6, 2) := by decide +kernel
theorem dX8_costOf_49 : decode cX8_costOf 49 = .ok (.iload_n 3, 1) := by decide +kernel
theorem dX8_costOf_50 : decode cX8_costOf 50 = .ok (.iload 5, 2) := by decide +kernel
theorem dX8_costOf_52 : decode cX8_costOf 52 = .ok (.aload_n 0, 1) := by decide +kernel
theorem dX8_costOf_53 : decode cX8_costOf 53 = .ok (.getfield 26, 3) := by decide +kernel
theorem dX8_costOf_56 : decode cX8_costOf 56 = .ok (.getfield 49, 3) := by decide +kernel
theorem dX8_costOf_59 : decode cX8_costOf 59 = .ok (.iload 4, 2) := by decide +kernel
theorem dX8_costOf_61 : decode cX8_costOf 61 = .ok (.bipush 6, 2) := by decide +kernel
theorem dX8_costOf_63 : decode cX8_costOf 63 = .ok (.imul, 1) := by decide +kernel
theorem dX8_costOf_64 : decode cX8_costOf 64 = .ok (.iconst 3, 1) := by decide +kernel
theorem dX8_costOf_65 : decode cX8_costOf 65 = .ok (.iadd, 1) := by decide +kernel
theorem dX8_costOf_66 : decode cX8_costOf 66 = .ok (.iaload, 1) := by decide +kernel
theorem dX8_costOf_67 : decode cX8_costOf 67 = .ok (.imul, 1) := by decide +kernel
theorem dX8_costOf_68 : decode cX8_costOf 68 = .ok (.iload 6, 2) := by decide +kernel
theorem dX8_costOf_70 : decode cX8_costOf 70 = .ok (.aload_n 0, 1) := by decide +kernel
theorem dX8_costOf_71 : decode cX8_costOf 71 = .ok (.getfield 26, 3) := by decide +kernel
theorem dX8_costOf_74 : decode cX8_costOf 74 = .ok (.getfield 49, 3) := by decide +kernel
theorem dX8_costOf_77 : decode cX8_costOf 77 = .ok (.bipush 41, 2) := by decide +kernel
theorem dX8_costOf_79 : decode cX8_costOf 79 = .ok (.iaload, 1) := by decide +kernel
theorem dX8_costOf_80 : decode cX8_costOf 80 = .ok (.imul, 1) := by decide +kernel
theorem dX8_costOf_81 : decode cX8_costOf 81 = .ok (.iadd, 1) := by decide +kernel
theorem dX8_costOf_82 : decode cX8_costOf 82 = .ok (.iadd, 1) := by decide +kernel
theorem dX8_costOf_83 : decode cX8_costOf 83 = .ok (.istore_n 3, 1) := by decide +kernel
theorem dX8_costOf_84 : decode cX8_costOf 84 = .ok (.iinc 4 1, 3) := by decide +kernel
theorem dX8_costOf_87 : decode cX8_costOf 87 = .ok (.goto (-75), 3) := by decide +kernel
theorem dX8_costOf_90 : decode cX8_costOf 90 = .ok (.iload_n 3, 1) := by decide +kernel
theorem dX8_costOf_91 : decode cX8_costOf 91 = .ok (.ireturn, 1) := by decide +kernel
theorem dX8_worstOver_0 : decode cX8_worstOver 0 = .ok (.bipush (-9), 2) := by decide +kernel
theorem dX8_worstOver_2 : decode cX8_worstOver 2 = .ok (.istore_n 3, 1) := by decide +kernel
theorem dX8_worstOver_3 : decode cX8_worstOver 3 = .ok (.iconst 0, 1) := by decide +kernel
theorem dX8_worstOver_4 : decode cX8_worstOver 4 = .ok (.istore 4, 2) := by decide +kernel
theorem dX8_worstOver_6 : decode cX8_worstOver 6 = .ok (.iload 4, 2) := by decide +kernel
theorem dX8_worstOver_8 : decode cX8_worstOver 8 = .ok (.bipush 16, 2) := by decide +kernel
theorem dX8_worstOver_10 : decode cX8_worstOver 10 = .ok (.if_icmp .ge 31, 3) := by decide +kernel
theorem dX8_worstOver_13 : decode cX8_worstOver 13 = .ok (.iload_n 2, 1) := by decide +kernel
theorem dX8_worstOver_14 : decode cX8_worstOver 14 = .ok (.iload 4, 2) := by decide +kernel
theorem dX8_worstOver_16 : decode cX8_worstOver 16 = .ok (.ishr, 1) := by decide +kernel
theorem dX8_worstOver_17 : decode cX8_worstOver 17 = .ok (.iconst 1, 1) := by decide +kernel
theorem dX8_worstOver_18 : decode cX8_worstOver 18 = .ok (.iand, 1) := by decide +kernel
theorem dX8_worstOver_19 : decode cX8_worstOver 19 = .ok (.iconst 1, 1) := by decide +kernel
theorem dX8_worstOver_20 : decode cX8_worstOver 20 = .ok (.if_icmp .ne 15, 3) := by decide +kernel
theorem dX8_worstOver_23 : decode cX8_worstOver 23 = .ok (.iload_n 3, 1) := by decide +kernel
theorem dX8_worstOver_24 : decode cX8_worstOver 24 = .ok (.aload_n 0, 1) := by decide +kernel
theorem dX8_worstOver_25 : decode cX8_worstOver 25 = .ok (.iload_n 1, 1) := by decide +kernel
theorem dX8_worstOver_26 : decode cX8_worstOver 26 = .ok (.iload 4, 2) := by decide +kernel
theorem dX8_worstOver_28 : decode cX8_worstOver 28 = .ok (.invokevirtual 52, 3) := by decide +kernel
theorem dX8_worstOver_31 : decode cX8_worstOver 31 = .ok (.invokestatic 43, 3) := by decide +kernel
theorem dX8_worstOver_34 : decode cX8_worstOver 34 = .ok (.istore_n 3, 1) := by decide +kernel
theorem dX8_worstOver_35 : decode cX8_worstOver 35 = .ok (.iinc 4 1, 3) := by decide +kernel
theorem dX8_worstOver_38 : decode cX8_worstOver 38 = .ok (.goto (-32), 3) := by decide +kernel
theorem dX8_worstOver_41 : decode cX8_worstOver 41 = .ok (.iload_n 3, 1) := by decide +kernel
theorem dX8_worstOver_42 : decode cX8_worstOver 42 = .ok (.ireturn, 1) := by decide +kernel
theorem dX8_mostLeft_0 : decode cX8_mostLeft 0 = .ok (.iconst 0, 1) := by decide +kernel
theorem dX8_mostLeft_1 : decode cX8_mostLeft 1 = .ok (.istore 4, 2) := by decide +kernel
theorem dX8_mostLeft_3 : decode cX8_mostLeft 3 = .ok (.iconst 0, 1) := by decide +kernel
theorem dX8_mostLeft_4 : decode cX8_mostLeft 4 = .ok (.istore 5, 2) := by decide +kernel
theorem dX8_mostLeft_6 : decode cX8_mostLeft 6 = .ok (.iload 5, 2) := by decide +kernel
theorem dX8_mostLeft_8 : decode cX8_mostLeft 8 = .ok (.bipush 16, 2) := by decide +kernel
theorem dX8_mostLeft_10 : decode cX8_mostLeft 10 = .ok (.if_icmp .ge 49, 3) := by decide +kernel
theorem dX8_mostLeft_13 : decode cX8_mostLeft 13 = .ok (.iload_n 3, 1) := by decide +kernel
theorem dX8_mostLeft_14 : decode cX8_mostLeft 14 = .ok (.iload 5, 2) := by decide +kernel
theorem dX8_mostLeft_16 : decode cX8_mostLeft 16 = .ok (.ishr, 1) := by decide +kernel
theorem dX8_mostLeft_17 : decode cX8_mostLeft 17 = .ok (.iconst 1, 1) := by decide +kernel
theorem dX8_mostLeft_18 : decode cX8_mostLeft 18 = .ok (.iand, 1) := by decide +kernel
theorem dX8_mostLeft_19 : decode cX8_mostLeft 19 = .ok (.ifCond .ne 6, 3) := by decide +kernel
theorem dX8_mostLeft_22 : decode cX8_mostLeft 22 = .ok (.goto 31, 3) := by decide +kernel
theorem dX8_mostLeft_25 : decode cX8_mostLeft 25 = .ok (.iload 4, 2) := by decide +kernel
theorem dX8_mostLeft_27 : decode cX8_mostLeft 27 = .ok (.aload_n 0, 1) := by decide +kernel
theorem dX8_mostLeft_28 : decode cX8_mostLeft 28 = .ok (.getfield 26, 3) := by decide +kernel
theorem dX8_mostLeft_31 : decode cX8_mostLeft 31 = .ok (.iload_n 1, 1) := by decide +kernel
theorem dX8_mostLeft_32 : decode cX8_mostLeft 32 = .ok (.iload_n 2, 1) := by decide +kernel
theorem dX8_mostLeft_33 : decode cX8_mostLeft 33 = .ok (.iload 5, 2) := by decide +kernel
theorem dX8_mostLeft_35 : decode cX8_mostLeft 35 = .ok (.invokevirtual 40, 3) := by decide +kernel
theorem dX8_mostLeft_38 : decode cX8_mostLeft 38 = .ok (.ineg, 1) := by decide +kernel
theorem dX8_mostLeft_39 : decode cX8_mostLeft 39 = .ok (.aload_n 0, 1) := by decide +kernel
theorem dX8_mostLeft_40 : decode cX8_mostLeft 40 = .ok (.iload_n 1, 1) := by decide +kernel
theorem dX8_mostLeft_41 : decode cX8_mostLeft 41 = .ok (.iload_n 2, 1) := by decide +kernel
theorem dX8_mostLeft_42 : decode cX8_mostLeft 42 = .ok (.iload 5, 2) := by decide +kernel
theorem dX8_mostLeft_44 : decode cX8_mostLeft 44 = .ok (.invokevirtual 36, 3) := by decide +kernel
theorem dX8_mostLeft_47 : decode cX8_mostLeft 47 = .ok (.isub, 1) := by decide +kernel
theorem dX8_mostLeft_48 : decode cX8_mostLeft 48 = .ok (.invokestatic 43, 3) := by decide +kernel
theorem dX8_mostLeft_51 : decode cX8_mostLeft 51 = .ok (.istore 4, 2) := by decide +kernel
theorem dX8_mostLeft_53 : decode cX8_mostLeft 53 = .ok (.iinc 5 1, 3) := by decide +kernel
theorem dX8_mostLeft_56 : decode cX8_mostLeft 56 = .ok (.goto (-50), 3) := by decide +kernel
theorem dX8_mostLeft_59 : decode cX8_mostLeft 59 = .ok (.iload 4, 2) := by decide +kernel
theorem dX8_mostLeft_61 : decode cX8_mostLeft 61 = .ok (.ireturn, 1) := by decide +kernel
theorem dX8_hadAt_0 : decode cX8_hadAt 0 = .ok (.aload_n 0, 1) := by decide +kernel
theorem dX8_hadAt_1 : decode cX8_hadAt 1 = .ok (.getfield 26, 3) := by decide +kernel
theorem dX8_hadAt_4 : decode cX8_hadAt 4 = .ok (.getfield 55, 3) := by decide +kernel
theorem dX8_hadAt_7 : decode cX8_hadAt 7 = .ok (.iload_n 1, 1) := by decide +kernel
theorem dX8_hadAt_8 : decode cX8_hadAt 8 = .ok (.aaload, 1) := by decide +kernel
theorem dX8_hadAt_9 : decode cX8_hadAt 9 = .ok (.iload_n 2, 1) := by decide +kernel
theorem dX8_hadAt_10 : decode cX8_hadAt 10 = .ok (.iload_n 3, 1) := by decide +kernel
theorem dX8_hadAt_11 : decode cX8_hadAt 11 = .ok (.aload_n 0, 1) := by decide +kernel
theorem dX8_hadAt_12 : decode cX8_hadAt 12 = .ok (.getfield 18, 3) := by decide +kernel
theorem dX8_hadAt_15 : decode cX8_hadAt 15 = .ok (.invokevirtual 59, 3) := by decide +kernel
theorem dX8_hadAt_18 : decode cX8_hadAt 18 = .ok (.istore 4, 2) := by decide +kernel
theorem dX8_hadAt_20 : decode cX8_hadAt 20 = .ok (.iconst 0, 1) := by decide +kernel
theorem dX8_hadAt_21 : decode cX8_hadAt 21 = .ok (.iload 4, 2) := by decide +kernel
theorem dX8_hadAt_23 : decode cX8_hadAt 23 = .ok (.aload_n 0, 1) := by decide +kernel
theorem dX8_hadAt_24 : decode cX8_hadAt 24 = .ok (.getfield 26, 3) := by decide +kernel
theorem dX8_hadAt_27 : decode cX8_hadAt 27 = .ok (.getfield 49, 3) := by decide +kernel
theorem dX8_hadAt_30 : decode cX8_hadAt 30 = .ok (.iload_n 1, 1) := by decide +kernel
theorem dX8_hadAt_31 : decode cX8_hadAt 31 = .ok (.bipush 6, 2) := by decide +kernel
theorem dX8_hadAt_33 : decode cX8_hadAt 33 = .ok (.imul, 1) := by decide +kernel
theorem dX8_hadAt_34 : decode cX8_hadAt 34 = .ok (.iconst 4, 1) := by decide +kernel
theorem dX8_hadAt_35 : decode cX8_hadAt 35 = .ok (.iadd, 1) := by decide +kernel
theorem dX8_hadAt_36 : decode cX8_hadAt 36 = .ok (.iaload, 1) := by decide +kernel
theorem dX8_hadAt_37 : decode cX8_hadAt 37 = .ok (.invokestatic 63, 3) := by decide +kernel
theorem dX8_hadAt_40 : decode cX8_hadAt 40 = .ok (.invokestatic 43, 3) := by decide +kernel
theorem dX8_hadAt_43 : decode cX8_hadAt 43 = .ok (.ireturn, 1) := by decide +kernel
theorem dX8_read_0 : decode cX8_read 0 = .ok (.aload_n 0, 1) := by decide +kernel
theorem dX8_read_1 : decode cX8_read 1 = .ok (.iload_n 2, 1) := by decide +kernel
theorem dX8_read_2 : decode cX8_read 2 = .ok (.putfield 22, 3) := by decide +kernel
theorem dX8_read_5 : decode cX8_read 5 = .ok (.aload_n 0, 1) := by decide +kernel
theorem dX8_read_6 : decode cX8_read 6 = .ok (.getfield 12, 3) := by decide +kernel
theorem dX8_read_9 : decode cX8_read 9 = .ok (.iconst 0, 1) := by decide +kernel
theorem dX8_read_10 : decode cX8_read 10 = .ok (.putfield 66, 3) := by decide +kernel
theorem dX8_read_13 : decode cX8_read 13 = .ok (.aload_n 1, 1) := by decide +kernel
theorem dX8_read_14 : decode cX8_read 14 = .ok (.invokevirtual 69, 3) := by decide +kernel
theorem dX8_read_17 : decode cX8_read 17 = .ok (.aload_n 0, 1) := by decide +kernel
theorem dX8_read_18 : decode cX8_read 18 = .ok (.aload_n 1, 1) := by decide +kernel
theorem dX8_read_19 : decode cX8_read 19 = .ok (.iconst 0, 1) := by decide +kernel
theorem dX8_read_20 : decode cX8_read 20 = .ok (.invokevirtual 74, 3) := by decide +kernel
theorem dX8_read_23 : decode cX8_read 23 = .ok (.aload_n 1, 1) := by decide +kernel
theorem dX8_read_24 : decode cX8_read 24 = .ok (.invokevirtual 78, 3) := by decide +kernel
theorem dX8_read_27 : decode cX8_read 27 = .ok (.return_, 1) := by decide +kernel
theorem dX8_keep_0 : decode cX8_keep 0 = .ok (.aload_n 0, 1) := by decide +kernel
theorem dX8_keep_1 : decode cX8_keep 1 = .ok (.getfield 26, 3) := by decide +kernel
theorem dX8_keep_4 : decode cX8_keep 4 = .ok (.getfield 55, 3) := by decide +kernel
theorem dX8_keep_7 : decode cX8_keep 7 = .ok (.iload_n 1, 1) := by decide +kernel
theorem dX8_keep_8 : decode cX8_keep 8 = .ok (.aaload, 1) := by decide +kernel
theorem dX8_keep_9 : decode cX8_keep 9 = .ok (.aload_n 0, 1) := by decide +kernel
theorem dX8_keep_10 : decode cX8_keep 10 = .ok (.getfield 12, 3) := by decide +kernel
theorem dX8_keep_13 : decode cX8_keep 13 = .ok (.invokevirtual 81, 3) := by decide +kernel
theorem dX8_keep_16 : decode cX8_keep 16 = .ok (.return_, 1) := by decide +kernel
theorem dX8_readSum_0 : decode cX8_readSum 0 = .ok (.aload_n 0, 1) := by decide +kernel
theorem dX8_readSum_1 : decode cX8_readSum 1 = .ok (.aload_n 1, 1) := by decide +kernel
theorem dX8_readSum_2 : decode cX8_readSum 2 = .ok (.iload_n 2, 1) := by decide +kernel
theorem dX8_readSum_3 : decode cX8_readSum 3 = .ok (.invokevirtual 85, 3) := by decide +kernel
theorem dX8_readSum_6 : decode cX8_readSum 6 = .ok (.iconst 0, 1) := by decide +kernel
theorem dX8_readSum_7 : decode cX8_readSum 7 = .ok (.istore_n 3, 1) := by decide +kernel
theorem dX8_readSum_8 : decode cX8_readSum 8 = .ok (.iload_n 3, 1) := by decide +kernel
theorem dX8_readSum_9 : decode cX8_readSum 9 = .ok (.bipush 40, 2) := by decide +kernel
theorem dX8_readSum_11 : decode cX8_readSum 11 = .ok (.if_icmp .ge 65, 3) := by decide +kernel
theorem dX8_readSum_14 : decode cX8_readSum 14 = .ok (.aload_n 1, 1) := by decide +kernel
theorem dX8_readSum_15 : decode cX8_readSum 15 = .ok (.invokevirtual 88, 3) := by decide +kernel
theorem dX8_readSum_18 : decode cX8_readSum 18 = .ok (.istore 4, 2) := by decide +kernel
theorem dX8_readSum_20 : decode cX8_readSum 20 = .ok (.aload_n 1, 1) := by decide +kernel
theorem dX8_readSum_21 : decode cX8_readSum 21 = .ok (.bipush 43, 2) := by decide +kernel
theorem dX8_readSum_23 : decode cX8_readSum 23 = .ok (.invokevirtual 92, 3) := by decide +kernel
theorem dX8_readSum_26 : decode cX8_readSum 26 = .ok (.ifCond .ne 15, 3) := by decide +kernel
theorem dX8_readSum_29 : decode cX8_readSum 29 = .ok (.aload_n 1, 1) := by decide +kernel
theorem dX8_readSum_30 : decode cX8_readSum 30 = .ok (.bipush 45, 2) := by decide +kernel
theorem dX8_readSum_32 : decode cX8_readSum 32 = .ok (.invokevirtual 92, 3) := by decide +kernel
theorem dX8_readSum_35 : decode cX8_readSum 35 = .ok (.ifCond .ne 6, 3) := by decide +kernel
theorem dX8_readSum_38 : decode cX8_readSum 38 = .ok (.goto 38, 3) := by decide +kernel
theorem dX8_readSum_41 : decode cX8_readSum 41 = .ok (.aload_n 0, 1) := by decide +kernel
theorem dX8_readSum_42 : decode cX8_readSum 42 = .ok (.aload_n 1, 1) := by decide +kernel
theorem dX8_readSum_43 : decode cX8_readSum 43 = .ok (.iload_n 2, 1) := by decide +kernel
theorem dX8_readSum_44 : decode cX8_readSum 44 = .ok (.invokevirtual 85, 3) := by decide +kernel
theorem dX8_readSum_47 : decode cX8_readSum 47 = .ok (.aload_n 0, 1) := by decide +kernel
theorem dX8_readSum_48 : decode cX8_readSum 48 = .ok (.getfield 12, 3) := by decide +kernel
theorem dX8_readSum_51 : decode cX8_readSum 51 = .ok (.iload 4, 2) := by decide +kernel
theorem dX8_readSum_53 : decode cX8_readSum 53 = .ok (.bipush 43, 2) := by decide +kernel
theorem dX8_readSum_55 : decode cX8_readSum 55 = .ok (.if_icmp .ne 9, 3) := by decide +kernel
theorem dX8_readSum_58 : decode cX8_readSum 58 = .ok (.sipush 1020, 3) := by decide +kernel
theorem dX8_readSum_61 : decode cX8_readSum 61 = .ok (.goto 6, 3) := by decide +kernel
theorem dX8_readSum_64 : decode cX8_readSum 64 = .ok (.sipush 1021, 3) := by decide +kernel
theorem dX8_readSum_67 : decode cX8_readSum 67 = .ok (.invokevirtual 96, 3) := by decide +kernel
theorem dX8_readSum_70 : decode cX8_readSum 70 = .ok (.iinc 3 1, 3) := by decide +kernel
theorem dX8_readSum_73 : decode cX8_readSum 73 = .ok (.goto (-65), 3) := by decide +kernel
theorem dX8_readSum_76 : decode cX8_readSum 76 = .ok (.return_, 1) := by decide +kernel
theorem dX8_readProduct_0 : decode cX8_readProduct 0 = .ok (.aload_n 0, 1) := by decide +kernel
theorem dX8_readProduct_1 : decode cX8_readProduct 1 = .ok (.aload_n 1, 1) := by decide +kernel
theorem dX8_readProduct_2 : decode cX8_readProduct 2 = .ok (.iload_n 2, 1) := by decide +kernel
theorem dX8_readProduct_3 : decode cX8_readProduct 3 = .ok (.invokevirtual 100, 3) := by decide +kernel
theorem dX8_readProduct_6 : decode cX8_readProduct 6 = .ok (.iconst 0, 1) := by decide +kernel
theorem dX8_readProduct_7 : decode cX8_readProduct 7 = .ok (.istore_n 3, 1) := by decide +kernel
theorem dX8_readProduct_8 : decode cX8_readProduct 8 = .ok (.iload_n 3, 1) := by decide +kernel
theorem dX8_readProduct_9 : decode cX8_readProduct 9 = .ok (.bipush 40, 2) := by decide +kernel
theorem dX8_readProduct_11 : decode cX8_readProduct 11 = .ok (.if_icmp .ge 34, 3) := by decide +kernel
theorem dX8_readProduct_14 : decode cX8_readProduct 14 = .ok (.aload_n 1, 1) := by decide +kernel
theorem dX8_readProduct_15 : decode cX8_readProduct 15 = .ok (.bipush 42, 2) := by decide +kernel
theorem dX8_readProduct_17 : decode cX8_readProduct 17 = .ok (.invokevirtual 92, 3) := by decide +kernel
theorem dX8_readProduct_20 : decode cX8_readProduct 20 = .ok (.ifCond .eq 25, 3) := by decide +kernel
theorem dX8_readProduct_23 : decode cX8_readProduct 23 = .ok (.aload_n 0, 1) := by decide +kernel
theorem dX8_readProduct_24 : decode cX8_readProduct 24 = .ok (.aload_n 1, 1) := by decide +kernel
theorem dX8_readProduct_25 : decode cX8_readProduct 25 = .ok (.iload_n 2, 1) := by decide +kernel
theorem dX8_readProduct_26 : decode cX8_readProduct 26 = .ok (.invokevirtual 100, 3) := by decide +kernel
theorem dX8_readProduct_29 : decode cX8_readProduct 29 = .ok (.aload_n 0, 1) := by decide +kernel
theorem dX8_readProduct_30 : decode cX8_readProduct 30 = .ok (.getfield 12, 3) := by decide +kernel
theorem dX8_readProduct_33 : decode cX8_readProduct 33 = .ok (.sipush 1022, 3) := by decide +kernel
theorem dX8_readProduct_36 : decode cX8_readProduct 36 = .ok (.invokevirtual 96, 3) := by decide +kernel
theorem dX8_readProduct_39 : decode cX8_readProduct 39 = .ok (.iinc 3 1, 3) := by decide +kernel
theorem dX8_readProduct_42 : decode cX8_readProduct 42 = .ok (.goto (-34), 3) := by decide +kernel
theorem dX8_readProduct_45 : decode cX8_readProduct 45 = .ok (.return_, 1) := by decide +kernel
theorem dX8_readUnit_0 : decode cX8_readUnit 0 = .ok (.aload_n 1, 1) := by decide +kernel
theorem dX8_readUnit_1 : decode cX8_readUnit 1 = .ok (.getfield 103, 3) := by decide +kernel
theorem dX8_readUnit_4 : decode cX8_readUnit 4 = .ok (.istore_n 3, 1) := by decide +kernel
theorem dX8_readUnit_5 : decode cX8_readUnit 5 = .ok (.aload_n 1, 1) := by decide +kernel
theorem dX8_readUnit_6 : decode cX8_readUnit 6 = .ok (.invokevirtual 106, 3) := by decide +kernel
theorem dX8_readUnit_9 : decode cX8_readUnit 9 = .ok (.ifCond .eq 11, 3) := by decide +kernel
theorem dX8_readUnit_12 : decode cX8_readUnit 12 = .ok (.aload_n 0, 1) := by decide +kernel
theorem dX8_readUnit_13 : decode cX8_readUnit 13 = .ok (.aload_n 1, 1) := by decide +kernel
theorem dX8_readUnit_14 : decode cX8_readUnit 14 = .ok (.invokevirtual 110, 3) := by decide +kernel
theorem dX8_readUnit_17 : decode cX8_readUnit 17 = .ok (.goto 108, 3) := by decide +kernel
theorem dX8_readUnit_20 : decode cX8_readUnit 20 = .ok (.aload_n 1, 1) := by decide +kernel
theorem dX8_readUnit_21 : decode cX8_readUnit 21 = .ok (.bipush 120, 2) := by decide +kernel
theorem dX8_readUnit_23 : decode cX8_readUnit 23 = .ok (.invokevirtual 92, 3) := by decide +kernel
theorem dX8_readUnit_26 : decode cX8_readUnit 26 = .ok (.ifCond .eq 35, 3) := by decide +kernel
theorem dX8_readUnit_29 : decode cX8_readUnit 29 = .ok (.aload_n 1, 1) := by decide +kernel
theorem dX8_readUnit_30 : decode cX8_readUnit 30 = .ok (.invokevirtual 114, 3) := by decide +kernel
theorem dX8_readUnit_33 : decode cX8_readUnit 33 = .ok (.istore 4, 2) := by decide +kernel
theorem dX8_readUnit_35 : decode cX8_readUnit 35 = .ok (.aload_n 0, 1) := by decide +kernel
theorem dX8_readUnit_36 : decode cX8_readUnit 36 = .ok (.getfield 12, 3) := by decide +kernel
theorem dX8_readUnit_39 : decode cX8_readUnit 39 = .ok (.iload 4, 2) := by decide +kernel
theorem dX8_readUnit_41 : decode cX8_readUnit 41 = .ok (.iconst 4, 1) := by decide +kernel
theorem dX8_readUnit_42 : decode cX8_readUnit 42 = .ok (.if_icmp .ge 12, 3) := by decide +kernel
theorem dX8_readUnit_45 : decode cX8_readUnit 45 = .ok (.sipush 1000, 3) := by decide +kernel
theorem dX8_readUnit_48 : decode cX8_readUnit 48 = .ok (.iload 4, 2) := by decide +kernel
theorem dX8_readUnit_50 : decode cX8_readUnit 50 = .ok (.iadd, 1) := by decide +kernel
theorem dX8_readUnit_51 : decode cX8_readUnit 51 = .ok (.goto 4, 3) := by decide +kernel
theorem dX8_readUnit_54 : decode cX8_readUnit 54 = .ok (.iconst 0, 1) := by decide +kernel
theorem dX8_readUnit_55 : decode cX8_readUnit 55 = .ok (.invokevirtual 96, 3) := by decide +kernel
theorem dX8_readUnit_58 : decode cX8_readUnit 58 = .ok (.goto 67, 3) := by decide +kernel
theorem dX8_readUnit_61 : decode cX8_readUnit 61 = .ok (.aload_n 1, 1) := by decide +kernel
theorem dX8_readUnit_62 : decode cX8_readUnit 62 = .ok (.bipush 115, 2) := by decide +kernel
theorem dX8_readUnit_64 : decode cX8_readUnit 64 = .ok (.invokevirtual 92, 3) := by decide +kernel
theorem dX8_readUnit_67 : decode cX8_readUnit 67 = .ok (.ifCond .eq 11, 3) := by decide +kernel
theorem dX8_readUnit_70 : decode cX8_readUnit 70 = .ok (.aload_n 0, 1) := by decide +kernel
theorem dX8_readUnit_71 : decode cX8_readUnit 71 = .ok (.aload_n 1, 1) := by decide +kernel
theorem dX8_readUnit_72 : decode cX8_readUnit 72 = .ok (.invokevirtual 117, 3) := by decide +kernel
theorem dX8_readUnit_75 : decode cX8_readUnit 75 = .ok (.goto 50, 3) := by decide +kernel
theorem dX8_readUnit_78 : decode cX8_readUnit 78 = .ok (.aload_n 1, 1) := by decide +kernel
theorem dX8_readUnit_79 : decode cX8_readUnit 79 = .ok (.bipush 40, 2) := by decide +kernel
theorem dX8_readUnit_81 : decode cX8_readUnit 81 = .ok (.invokevirtual 92, 3) := by decide +kernel
theorem dX8_readUnit_84 : decode cX8_readUnit 84 = .ok (.ifCond .eq 36, 3) := by decide +kernel
theorem dX8_readUnit_87 : decode cX8_readUnit 87 = .ok (.iload_n 2, 1) := by decide +kernel
theorem dX8_readUnit_88 : decode cX8_readUnit 88 = .ok (.iconst 4, 1) := by decide +kernel
theorem dX8_readUnit_89 : decode cX8_readUnit 89 = .ok (.if_icmp .ge 31, 3) := by decide +kernel
theorem dX8_readUnit_92 : decode cX8_readUnit 92 = .ok (.aload_n 0, 1) := by decide +kernel
theorem dX8_readUnit_93 : decode cX8_readUnit 93 = .ok (.aload_n 1, 1) := by decide +kernel
theorem dX8_readUnit_94 : decode cX8_readUnit 94 = .ok (.iload_n 2, 1) := by decide +kernel
theorem dX8_readUnit_95 : decode cX8_readUnit 95 = .ok (.iconst 1, 1) := by decide +kernel
theorem dX8_readUnit_96 : decode cX8_readUnit 96 = .ok (.iadd, 1) := by decide +kernel
theorem dX8_readUnit_97 : decode cX8_readUnit 97 = .ok (.invokevirtual 74, 3) := by decide +kernel
theorem dX8_readUnit_100 : decode cX8_readUnit 100 = .ok (.aload_n 1, 1) := by decide +kernel
theorem dX8_readUnit_101 : decode cX8_readUnit 101 = .ok (.bipush 41, 2) := by decide +kernel
theorem dX8_readUnit_103 : decode cX8_readUnit 103 = .ok (.invokevirtual 92, 3) := by decide +kernel
theorem dX8_readUnit_106 : decode cX8_readUnit 106 = .ok (.ifCond .ne 19, 3) := by decide +kernel
theorem dX8_readUnit_109 : decode cX8_readUnit 109 = .ok (.aload_n 1, 1) := by decide +kernel
theorem dX8_readUnit_110 : decode cX8_readUnit 110 = .ok (.aload_n 1, 1) := by decide +kernel
theorem dX8_readUnit_111 : decode cX8_readUnit 111 = .ok (.getfield 103, 3) := by decide +kernel
theorem dX8_readUnit_114 : decode cX8_readUnit 114 = .ok (.invokevirtual 120, 3) := by decide +kernel
theorem dX8_readUnit_117 : decode cX8_readUnit 117 = .ok (.goto 8, 3) := by decide +kernel
theorem dX8_readUnit_120 : decode cX8_readUnit 120 = .ok (.aload_n 1, 1) := by decide +kernel
theorem dX8_readUnit_121 : decode cX8_readUnit 121 = .ok (.iload_n 3, 1) := by decide +kernel
theorem dX8_readUnit_122 : decode cX8_readUnit 122 = .ok (.invokevirtual 120, 3) := by decide +kernel
theorem dX8_readUnit_125 : decode cX8_readUnit 125 = .ok (.return_, 1) := by decide +kernel
theorem dX8_readSeen_0 : decode cX8_readSeen 0 = .ok (.aload_n 1, 1) := by decide +kernel
theorem dX8_readSeen_1 : decode cX8_readSeen 1 = .ok (.getfield 103, 3) := by decide +kernel
theorem dX8_readSeen_4 : decode cX8_readSeen 4 = .ok (.istore_n 2, 1) := by decide +kernel
theorem dX8_readSeen_5 : decode cX8_readSeen 5 = .ok (.aload_n 1, 1) := by decide +kernel
theorem dX8_readSeen_6 : decode cX8_readSeen 6 = .ok (.invokevirtual 114, 3) := by decide +kernel
theorem dX8_readSeen_9 : decode cX8_readSeen 9 = .ok (.istore_n 3, 1) := by decide +kernel
theorem dX8_readSeen_10 : decode cX8_readSeen 10 = .ok (.iload_n 3, 1) := by decide +kernel
theorem dX8_readSeen_11 : decode cX8_readSeen 11 = .ok (.iconst 4, 1) := by decide +kernel
theorem dX8_readSeen_12 : decode cX8_readSeen 12 = .ok (.if_icmp .ge 14, 3) := by decide +kernel
theorem dX8_readSeen_15 : decode cX8_readSeen 15 = .ok (.aload_n 0, 1) := by decide +kernel
theorem dX8_readSeen_16 : decode cX8_readSeen 16 = .ok (.getfield 22, 3) := by decide +kernel
theorem dX8_readSeen_19 : decode cX8_readSeen 19 = .ok (.iload_n 3, 1) := by decide +kernel
theorem dX8_readSeen_20 : decode cX8_readSeen 20 = .ok (.ishr, 1) := by decide +kernel
theorem dX8_readSeen_21 : decode cX8_readSeen 21 = .ok (.iconst 1, 1) := by decide +kernel
theorem dX8_readSeen_22 : decode cX8_readSeen 22 = .ok (.iand, 1) := by decide +kernel
theorem dX8_readSeen_23 : decode cX8_readSeen 23 = .ok (.ifCond .ne 8, 3) := by decide +kernel
theorem dX8_readSeen_26 : decode cX8_readSeen 26 = .ok (.aload_n 1, 1) := by decide +kernel
theorem dX8_readSeen_27 : decode cX8_readSeen 27 = .ok (.iload_n 2, 1) := by decide +kernel
theorem dX8_readSeen_28 : decode cX8_readSeen 28 = .ok (.invokevirtual 120, 3) := by decide +kernel
theorem dX8_readSeen_31 : decode cX8_readSeen 31 = .ok (.aload_n 0, 1) := by decide +kernel
theorem dX8_readSeen_32 : decode cX8_readSeen 32 = .ok (.getfield 12, 3) := by decide +kernel
theorem dX8_readSeen_35 : decode cX8_readSeen 35 = .ok (.sipush 1010, 3) := by decide +kernel
theorem dX8_readSeen_38 : decode cX8_readSeen 38 = .ok (.iload_n 3, 1) := by decide +kernel
theorem dX8_readSeen_39 : decode cX8_readSeen 39 = .ok (.iadd, 1) := by decide +kernel
theorem dX8_readSeen_40 : decode cX8_readSeen 40 = .ok (.invokevirtual 96, 3) := by decide +kernel
theorem dX8_readSeen_43 : decode cX8_readSeen 43 = .ok (.return_, 1) := by decide +kernel
theorem dX8_readNumber_0 : decode cX8_readNumber 0 = .ok (.iconst 0, 1) := by decide +kernel
theorem dX8_readNumber_1 : decode cX8_readNumber 1 = .ok (.istore_n 2, 1) := by decide +kernel
theorem dX8_readNumber_2 : decode cX8_readNumber 2 = .ok (.iconst 0, 1) := by decide +kernel
theorem dX8_readNumber_3 : decode cX8_readNumber 3 = .ok (.istore_n 3, 1) := by decide +kernel
theorem dX8_readNumber_4 : decode cX8_readNumber 4 = .ok (.iload_n 3, 1) := by decide +kernel
theorem dX8_readNumber_5 : decode cX8_readNumber 5 = .ok (.iconst 3, 1) := by decide +kernel
theorem dX8_readNumber_6 : decode cX8_readNumber 6 = .ok (.if_icmp .ge 26, 3) := by decide +kernel
theorem dX8_readNumber_9 : decode cX8_readNumber 9 = .ok (.aload_n 1, 1) := by decide +kernel
theorem dX8_readNumber_10 : decode cX8_readNumber 10 = .ok (.invokevirtual 106, 3) := by decide +kernel
theorem dX8_readNumber_13 : decode cX8_readNumber 13 = .ok (.ifCond .eq 19, 3) := by decide +kernel
theorem dX8_readNumber_16 : decode cX8_readNumber 16 = .ok (.iload_n 2, 1) := by decide +kernel
theorem dX8_readNumber_17 : decode cX8_readNumber 17 = .ok (.bipush 10, 2) := by decide +kernel
theorem dX8_readNumber_19 : decode cX8_readNumber 19 = .ok (.imul, 1) := by decide +kernel
theorem dX8_readNumber_20 : decode cX8_readNumber 20 = .ok (.aload_n 1, 1) := by decide +kernel
theorem dX8_readNumber_21 : decode cX8_readNumber 21 = .ok (.invokevirtual 114, 3) := by decide +kernel
theorem dX8_readNumber_24 : decode cX8_readNumber 24 = .ok (.iadd, 1) := by decide +kernel
theorem dX8_readNumber_25 : decode cX8_readNumber 25 = .ok (.istore_n 2, 1) := by decide +kernel
theorem dX8_readNumber_26 : decode cX8_readNumber 26 = .ok (.iinc 3 1, 3) := by decide +kernel
theorem dX8_readNumber_29 : decode cX8_readNumber 29 = .ok (.goto (-25), 3) := by decide +kernel
theorem dX8_readNumber_32 : decode cX8_readNumber 32 = .ok (.aload_n 0, 1) := by decide +kernel
theorem dX8_readNumber_33 : decode cX8_readNumber 33 = .ok (.getfield 12, 3) := by decide +kernel
theorem dX8_readNumber_36 : decode cX8_readNumber 36 = .ok (.iload_n 2, 1) := by decide +kernel
theorem dX8_readNumber_37 : decode cX8_readNumber 37 = .ok (.invokevirtual 96, 3) := by decide +kernel
theorem dX8_readNumber_40 : decode cX8_readNumber 40 = .ok (.return_, 1) := by decide +kernel
theorem dX9_init_0 : decode cX9_init 0 = .ok (.aload_n 0, 1) := by decide +kernel
theorem dX9_init_1 : decode cX9_init 1 = .ok (.invokespecial 3, 3) := by decide +kernel
theorem dX9_init_4 : decode cX9_init 4 = .ok (.aload_n 0, 1) := by decide +kernel
theorem dX9_init_5 : decode cX9_init 5 = .ok (.bipush 40, 2) := by decide +kernel
theorem dX9_init_7 : decode cX9_init 7 = .ok (.newarray .int, 2) := by decide +kernel
theorem dX9_init_9 : decode cX9_init 9 = .ok (.putfield 9, 3) := by decide +kernel
theorem dX9_init_12 : decode cX9_init 12 = .ok (.aload_n 0, 1) := by decide +kernel
theorem dX9_init_13 : decode cX9_init 13 = .ok (.iconst 0, 1) := by decide +kernel
theorem dX9_init_14 : decode cX9_init 14 = .ok (.putfield 15, 3) := by decide +kernel
theorem dX9_init_17 : decode cX9_init 17 = .ok (.aload_n 0, 1) := by decide +kernel
theorem dX9_init_18 : decode cX9_init 18 = .ok (.iconst 0, 1) := by decide +kernel
theorem dX9_init_19 : decode cX9_init 19 = .ok (.putfield 19, 3) := by decide +kernel
theorem dX9_init_22 : decode cX9_init 22 = .ok (.aload_n 0, 1) := by decide +kernel
theorem dX9_init_23 : decode cX9_init 23 = .ok (.iconst (-1), 1) := by decide +kernel
theorem dX9_init_24 : decode cX9_init 24 = .ok (.putfield 22, 3) := by decide +kernel
theorem dX9_init_27 : decode cX9_init 27 = .ok (.return_, 1) := by decide +kernel
theorem dX9_append_0 : decode cX9_append 0 = .ok (.iconst 0, 1) := by decide +kernel
theorem dX9_append_1 : decode cX9_append 1 = .ok (.istore 4, 2) := by decide +kernel
theorem dX9_append_3 : decode cX9_append 3 = .ok (.iload 4, 2) := by decide +kernel
theorem dX9_append_5 : decode cX9_append 5 = .ok (.iload_n 1, 1) := by decide +kernel
theorem dX9_append_6 : decode cX9_append 6 = .ok (.if_icmp .ge 49, 3) := by decide +kernel
theorem dX9_append_9 : decode cX9_append 9 = .ok (.aload_n 0, 1) := by decide +kernel
theorem dX9_append_10 : decode cX9_append 10 = .ok (.getfield 15, 3) := by decide +kernel
theorem dX9_append_13 : decode cX9_append 13 = .ok (.bipush 40, 2) := by decide +kernel
theorem dX9_append_15 : decode cX9_append 15 = .ok (.if_icmp .ge 40, 3) := by decide +kernel
theorem dX9_append_18 : decode cX9_append 18 = .ok (.aload_n 0, 1) := by decide +kernel
theorem dX9_append_19 : decode cX9_append 19 = .ok (.getfield 9, 3) := by decide +kernel
theorem dX9_append_22 : decode cX9_append 22 = .ok (.aload_n 0, 1) := by decide +kernel
theorem dX9_append_23 : decode cX9_append 23 = .ok (.getfield 15, 3) := by decide +kernel
theorem dX9_append_26 : decode cX9_append 26 = .ok (.lload_n 2, 1) := by decide +kernel
theorem dX9_append_27 : decode cX9_append 27 = .ok (.bipush 8, 2) := by decide +kernel
theorem dX9_append_29 : decode cX9_append 29 = .ok (.iload 4, 2) := by decide +kernel
theorem dX9_append_31 : decode cX9_append 31 = .ok (.imul, 1) := by decide +kernel
theorem dX9_append_32 : decode cX9_append 32 = .ok (.lushr, 1) := by decide +kernel
theorem dX9_append_33 : decode cX9_append 33 = .ok (.ldc2_w 25, 3) := by decide +kernel
theorem dX9_append_36 : decode cX9_append 36 = .ok (.land, 1) := by decide +kernel
theorem dX9_append_37 : decode cX9_append 37 = .ok (.l2i, 1) := by decide +kernel
theorem dX9_append_38 : decode cX9_append 38 = .ok (.iastore, 1) := by decide +kernel
theorem dX9_append_39 : decode cX9_append 39 = .ok (.aload_n 0, 1) := by decide +kernel
theorem dX9_append_40 : decode cX9_append 40 = .ok (.dup, 1) := by decide +kernel
theorem dX9_append_41 : decode cX9_append 41 = .ok (.getfield 15, 3) := by decide +kernel
theorem dX9_append_44 : decode cX9_append 44 = .ok (.iconst 1, 1) := by decide +kernel
theorem dX9_append_45 : decode cX9_append 45 = .ok (.iadd, 1) := by decide +kernel
theorem dX9_append_46 : decode cX9_append 46 = .ok (.putfield 15, 3) := by decide +kernel
theorem dX9_append_49 : decode cX9_append 49 = .ok (.iinc 4 1, 3) := by decide +kernel
theorem dX9_append_52 : decode cX9_append 52 = .ok (.goto (-49), 3) := by decide +kernel
theorem dX9_append_55 : decode cX9_append 55 = .ok (.return_, 1) := by decide +kernel
theorem dX9_begin_0 : decode cX9_begin 0 = .ok (.aload_n 0, 1) := by decide +kernel
theorem dX9_begin_1 : decode cX9_begin 1 = .ok (.iconst 0, 1) := by decide +kernel
theorem dX9_begin_2 : decode cX9_begin 2 = .ok (.putfield 19, 3) := by decide +kernel
theorem dX9_begin_5 : decode cX9_begin 5 = .ok (.aload_n 0, 1) := by decide +kernel
theorem dX9_begin_6 : decode cX9_begin 6 = .ok (.iconst (-1), 1) := by decide +kernel
theorem dX9_begin_7 : decode cX9_begin 7 = .ok (.putfield 22, 3) := by decide +kernel
theorem dX9_begin_10 : decode cX9_begin 10 = .ok (.return_, 1) := by decide +kernel
theorem dX9_peek_0 : decode cX9_peek 0 = .ok (.aload_n 0, 1) := by decide +kernel
theorem dX9_peek_1 : decode cX9_peek 1 = .ok (.getfield 22, 3) := by decide +kernel
theorem dX9_peek_4 : decode cX9_peek 4 = .ok (.ifCond .ge 42, 3) := by decide +kernel
theorem dX9_peek_7 : decode cX9_peek 7 = .ok (.aload_n 0, 1) := by decide +kernel
theorem dX9_peek_8 : decode cX9_peek 8 = .ok (.getfield 19, 3) := by decide +kernel
theorem dX9_peek_11 : decode cX9_peek 11 = .ok (.ifCond .lt 35, 3) := by decide +kernel
theorem dX9_peek_14 : decode cX9_peek 14 = .ok (.aload_n 0, 1) := by decide +kernel
theorem dX9_peek_15 : decode cX9_peek 15 = .ok (.getfield 19, 3) := by decide +kernel
theorem dX9_peek_18 : decode cX9_peek 18 = .ok (.aload_n 0, 1) := by decide +kernel
theorem dX9_peek_19 : decode cX9_peek 19 = .ok (.getfield 15, 3) := by decide +kernel
theorem dX9_peek_22 : decode cX9_peek 22 = .ok (.if_icmp .ge 24, 3) := by decide +kernel
theorem dX9_peek_25 : decode cX9_peek 25 = .ok (.aload_n 0, 1) := by decide +kernel
theorem dX9_peek_26 : decode cX9_peek 26 = .ok (.getfield 19, 3) := by decide +kernel
theorem dX9_peek_29 : decode cX9_peek 29 = .ok (.bipush 40, 2) := by decide +kernel
theorem dX9_peek_31 : decode cX9_peek 31 = .ok (.if_icmp .ge 15, 3) := by decide +kernel
theorem dX9_peek_34 : decode cX9_peek 34 = .ok (.aload_n 0, 1) := by decide +kernel
theorem dX9_peek_35 : decode cX9_peek 35 = .ok (.getfield 9, 3) := by decide +kernel
theorem dX9_peek_38 : decode cX9_peek 38 = .ok (.aload_n 0, 1) := by decide +kernel
theorem dX9_peek_39 : decode cX9_peek 39 = .ok (.getfield 19, 3) := by decide +kernel
theorem dX9_peek_42 : decode cX9_peek 42 = .ok (.iaload, 1) := by decide +kernel
theorem dX9_peek_43 : decode cX9_peek 43 = .ok (.goto 4, 3) := by decide +kernel
theorem dX9_peek_46 : decode cX9_peek 46 = .ok (.iconst (-1), 1) := by decide +kernel
theorem dX9_peek_47 : decode cX9_peek 47 = .ok (.ireturn, 1) := by decide +kernel
theorem dX9_take_0 : decode cX9_take 0 = .ok (.aload_n 0, 1) := by decide +kernel
theorem dX9_take_1 : decode cX9_take 1 = .ok (.invokevirtual 27, 3) := by decide +kernel
theorem dX9_take_4 : decode cX9_take 4 = .ok (.iload_n 1, 1) := by decide +kernel
theorem dX9_take_5 : decode cX9_take 5 = .ok (.if_icmp .eq 5, 3) := by decide +kernel
theorem dX9_take_8 : decode cX9_take 8 = .ok (.iconst 0, 1) := by decide +kernel
theorem dX9_take_9 : decode cX9_take 9 = .ok (.ireturn, 1) := by decide +kernel
theorem dX9_take_10 : decode cX9_take 10 = .ok (.aload_n 0, 1) := by decide +kernel
theorem dX9_take_11 : decode cX9_take 11 = .ok (.dup, 1) := by decide +kernel
theorem dX9_take_12 : decode cX9_take 12 = .ok (.getfield 19, 3) := by decide +kernel
theorem dX9_take_15 : decode cX9_take 15 = .ok (.iconst 1, 1) := by decide +kernel
theorem dX9_take_16 : decode cX9_take 16 = .ok (.iadd, 1) := by decide +kernel
theorem dX9_take_17 : decode cX9_take 17 = .ok (.putfield 19, 3) := by decide +kernel
theorem dX9_take_20 : decode cX9_take 20 = .ok (.iconst 1, 1) := by decide +kernel
theorem dX9_take_21 : decode cX9_take 21 = .ok (.ireturn, 1) := by decide +kernel
theorem dX9_atDigit_0 : decode cX9_atDigit 0 = .ok (.aload_n 0, 1) := by decide +kernel
theorem dX9_atDigit_1 : decode cX9_atDigit 1 = .ok (.invokevirtual 27, 3) := by decide +kernel
theorem dX9_atDigit_4 : decode cX9_atDigit 4 = .ok (.istore_n 1, 1) := by decide +kernel
theorem dX9_atDigit_5 : decode cX9_atDigit 5 = .ok (.iload_n 1, 1) := by decide +kernel
theorem dX9_atDigit_6 : decode cX9_atDigit 6 = .ok (.bipush 48, 2) := by decide +kernel
theorem dX9_atDigit_8 : decode cX9_atDigit 8 = .ok (.if_icmp .lt 13, 3) := by decide +kernel
theorem dX9_atDigit_11 : decode cX9_atDigit 11 = .ok (.iload_n 1, 1) := by decide +kernel
theorem dX9_atDigit_12 : decode cX9_atDigit 12 = .ok (.bipush 57, 2) := by decide +kernel
theorem dX9_atDigit_14 : decode cX9_atDigit 14 = .ok (.if_icmp .gt 7, 3) := by decide +kernel
theorem dX9_atDigit_17 : decode cX9_atDigit 17 = .ok (.iconst 1, 1) := by decide +kernel
theorem dX9_atDigit_18 : decode cX9_atDigit 18 = .ok (.goto 4, 3) := by decide +kernel
theorem dX9_atDigit_21 : decode cX9_atDigit 21 = .ok (.iconst 0, 1) := by decide +kernel
theorem dX9_atDigit_22 : decode cX9_atDigit 22 = .ok (.ireturn, 1) := by decide +kernel
theorem dX9_digit_0 : decode cX9_digit 0 = .ok (.aload_n 0, 1) := by decide +kernel
theorem dX9_digit_1 : decode cX9_digit 1 = .ok (.invokevirtual 27, 3) := by decide +kernel
theorem dX9_digit_4 : decode cX9_digit 4 = .ok (.istore_n 1, 1) := by decide +kernel
theorem dX9_digit_5 : decode cX9_digit 5 = .ok (.iload_n 1, 1) := by decide +kernel
theorem dX9_digit_6 : decode cX9_digit 6 = .ok (.bipush 48, 2) := by decide +kernel
theorem dX9_digit_8 : decode cX9_digit 8 = .ok (.if_icmp .lt 9, 3) := by decide +kernel
theorem dX9_digit_11 : decode cX9_digit 11 = .ok (.iload_n 1, 1) := by decide +kernel
theorem dX9_digit_12 : decode cX9_digit 12 = .ok (.bipush 57, 2) := by decide +kernel
theorem dX9_digit_14 : decode cX9_digit 14 = .ok (.if_icmp .le 13, 3) := by decide +kernel
theorem dX9_digit_17 : decode cX9_digit 17 = .ok (.aload_n 0, 1) := by decide +kernel
theorem dX9_digit_18 : decode cX9_digit 18 = .ok (.aload_n 0, 1) := by decide +kernel
theorem dX9_digit_19 : decode cX9_digit 19 = .ok (.getfield 19, 3) := by decide +kernel
theorem dX9_digit_22 : decode cX9_digit 22 = .ok (.invokevirtual 31, 3) := by decide +kernel
theorem dX9_digit_25 : decode cX9_digit 25 = .ok (.iconst 0, 1) := by decide +kernel
theorem dX9_digit_26 : decode cX9_digit 26 = .ok (.ireturn, 1) := by decide +kernel
theorem dX9_digit_27 : decode cX9_digit 27 = .ok (.aload_n 0, 1) := by decide +kernel
theorem dX9_digit_28 : decode cX9_digit 28 = .ok (.dup, 1) := by decide +kernel
theorem dX9_digit_29 : decode cX9_digit 29 = .ok (.getfield 19, 3) := by decide +kernel
theorem dX9_digit_32 : decode cX9_digit 32 = .ok (.iconst 1, 1) := by decide +kernel
theorem dX9_digit_33 : decode cX9_digit 33 = .ok (.iadd, 1) := by decide +kernel
theorem dX9_digit_34 : decode cX9_digit 34 = .ok (.putfield 19, 3) := by decide +kernel
theorem dX9_digit_37 : decode cX9_digit 37 = .ok (.iload_n 1, 1) := by decide +kernel
theorem dX9_digit_38 : decode cX9_digit 38 = .ok (.bipush 48, 2) := by decide +kernel
theorem dX9_digit_40 : decode cX9_digit 40 = .ok (.isub, 1) := by decide +kernel
theorem dX9_digit_41 : decode cX9_digit 41 = .ok (.ireturn, 1) := by decide +kernel
theorem dX9_fail_0 : decode cX9_fail 0 = .ok (.aload_n 0, 1) := by decide +kernel
theorem dX9_fail_1 : decode cX9_fail 1 = .ok (.getfield 22, 3) := by decide +kernel
theorem dX9_fail_4 : decode cX9_fail 4 = .ok (.ifCond .ge 8, 3) := by decide +kernel
theorem dX9_fail_7 : decode cX9_fail 7 = .ok (.aload_n 0, 1) := by decide +kernel
theorem dX9_fail_8 : decode cX9_fail 8 = .ok (.iload_n 1, 1) := by decide +kernel
theorem dX9_fail_9 : decode cX9_fail 9 = .ok (.putfield 22, 3) := by decide +kernel
theorem dX9_fail_12 : decode cX9_fail 12 = .ok (.return_, 1) := by decide +kernel
theorem dX9_end_0 : decode cX9_end 0 = .ok (.aload_n 0, 1) := by decide +kernel
theorem dX9_end_1 : decode cX9_end 1 = .ok (.getfield 19, 3) := by decide +kernel
theorem dX9_end_4 : decode cX9_end 4 = .ok (.aload_n 0, 1) := by decide +kernel
theorem dX9_end_5 : decode cX9_end 5 = .ok (.getfield 15, 3) := by decide +kernel
theorem dX9_end_8 : decode cX9_end 8 = .ok (.if_icmp .ge 11, 3) := by decide +kernel
theorem dX9_end_11 : decode cX9_end 11 = .ok (.aload_n 0, 1) := by decide +kernel
theorem dX9_end_12 : decode cX9_end 12 = .ok (.aload_n 0, 1) := by decide +kernel
theorem dX9_end_13 : decode cX9_end 13 = .ok (.getfield 19, 3) := by decide +kernel
theorem dX9_end_16 : decode cX9_end 16 = .ok (.invokevirtual 31, 3) := by decide +kernel
theorem dX9_end_19 : decode cX9_end 19 = .ok (.aload_n 0, 1) := by decide +kernel
theorem dX9_end_20 : decode cX9_end 20 = .ok (.iconst 0, 1) := by decide +kernel
theorem dX9_end_21 : decode cX9_end 21 = .ok (.putfield 15, 3) := by decide +kernel
theorem dX9_end_24 : decode cX9_end 24 = .ok (.return_, 1) := by decide +kernel
theorem dX10_init_0 : decode cX10_init 0 = .ok (.aload_n 0, 1) := by decide +kernel
theorem dX10_init_1 : decode cX10_init 1 = .ok (.invokespecial 3, 3) := by decide +kernel
theorem dX10_init_4 : decode cX10_init 4 = .ok (.aload_n 0, 1) := by decide +kernel
theorem dX10_init_5 : decode cX10_init 5 = .ok (.iconst 0, 1) := by decide +kernel
theorem dX10_init_6 : decode cX10_init 6 = .ok (.putfield 9, 3) := by decide +kernel
theorem dX10_init_9 : decode cX10_init 9 = .ok (.aload_n 0, 1) := by decide +kernel
theorem dX10_init_10 : decode cX10_init 10 = .ok (.bipush 43, 2) := by decide +kernel
theorem dX10_init_12 : decode cX10_init 12 = .ok (.newarray .int, 2) := by decide +kernel
theorem dX10_init_14 : decode cX10_init 14 = .ok (.putfield 15, 3) := by decide +kernel
theorem dX10_init_17 : decode cX10_init 17 = .ok (.aload_n 0, 1) := by decide +kernel
theorem dX10_init_18 : decode cX10_init 18 = .ok (.iconst 0, 1) := by decide +kernel
theorem dX10_init_19 : decode cX10_init 19 = .ok (.putfield 19, 3) := by decide +kernel
theorem dX10_init_22 : decode cX10_init 22 = .ok (.aload_n 0, 1) := by decide +kernel
theorem dX10_init_23 : decode cX10_init 23 = .ok (.iconst 0, 1) := by decide +kernel
theorem dX10_init_24 : decode cX10_init 24 = .ok (.putfield 22, 3) := by decide +kernel
theorem dX10_init_27 : decode cX10_init 27 = .ok (.aload_n 0, 1) := by decide +kernel
theorem dX10_init_28 : decode cX10_init 28 = .ok (.bipush 12, 2) := by decide +kernel
theorem dX10_init_30 : decode cX10_init 30 = .ok (.newarray .int, 2) := by decide +kernel
theorem dX10_init_32 : decode cX10_init 32 = .ok (.putfield 25, 3) := by decide +kernel
theorem dX10_init_35 : decode cX10_init 35 = .ok (.aload_n 0, 1) := by decide +kernel
theorem dX10_init_36 : decode cX10_init 36 = .ok (.iconst 4, 1) := by decide +kernel
theorem dX10_init_37 : decode cX10_init 37 = .ok (.anewarray 28, 3) := by decide +kernel
theorem dX10_init_40 : decode cX10_init 40 = .ok (.dup, 1) := by decide +kernel
theorem dX10_init_41 : decode cX10_init 41 = .ok (.iconst 0, 1) := by decide +kernel
theorem dX10_init_42 : decode cX10_init 42 = .ok (.new 28, 3) := by decide +kernel
theorem dX10_init_45 : decode cX10_init 45 = .ok (.dup, 1) := by decide +kernel
theorem dX10_init_46 : decode cX10_init 46 = .ok (.invokespecial 30, 3) := by decide +kernel
theorem dX10_init_49 : decode cX10_init 49 = .ok (.aastore, 1) := by decide +kernel
theorem dX10_init_50 : decode cX10_init 50 = .ok (.dup, 1) := by decide +kernel
theorem dX10_init_51 : decode cX10_init 51 = .ok (.iconst 1, 1) := by decide +kernel
theorem dX10_init_52 : decode cX10_init 52 = .ok (.new 28, 3) := by decide +kernel
theorem dX10_init_55 : decode cX10_init 55 = .ok (.dup, 1) := by decide +kernel
theorem dX10_init_56 : decode cX10_init 56 = .ok (.invokespecial 30, 3) := by decide +kernel
theorem dX10_init_59 : decode cX10_init 59 = .ok (.aastore, 1) := by decide +kernel
theorem dX10_init_60 : decode cX10_init 60 = .ok (.dup, 1) := by decide +kernel
theorem dX10_init_61 : decode cX10_init 61 = .ok (.iconst 2, 1) := by decide +kernel
theorem dX10_init_62 : decode cX10_init 62 = .ok (.new 28, 3) := by decide +kernel
theorem dX10_init_65 : decode cX10_init 65 = .ok (.dup, 1) := by decide +kernel
theorem dX10_init_66 : decode cX10_init 66 = .ok (.invokespecial 30, 3) := by decide +kernel
theorem dX10_init_69 : decode cX10_init 69 = .ok (.aastore, 1) := by decide +kernel
theorem dX10_init_70 : decode cX10_init 70 = .ok (.dup, 1) := by decide +kernel
theorem dX10_init_71 : decode cX10_init 71 = .ok (.iconst 3, 1) := by decide +kernel
theorem dX10_init_72 : decode cX10_init 72 = .ok (.new 28, 3) := by decide +kernel
theorem dX10_init_75 : decode cX10_init 75 = .ok (.dup, 1) := by decide +kernel
theorem dX10_init_76 : decode cX10_init 76 = .ok (.invokespecial 30, 3) := by decide +kernel
theorem dX10_init_79 : decode cX10_init 79 = .ok (.aastore, 1) := by decide +kernel
theorem dX10_init_80 : decode cX10_init 80 = .ok (.putfield 31, 3) := by decide +kernel
theorem dX10_init_83 : decode cX10_init 83 = .ok (.aload_n 0, 1) := by decide +kernel
theorem dX10_init_84 : decode cX10_init 84 = .ok (.iconst 0, 1) := by decide +kernel
theorem dX10_init_85 : decode cX10_init 85 = .ok (.putfield 35, 3) := by decide +kernel
theorem dX10_init_88 : decode cX10_init 88 = .ok (.aload_n 0, 1) := by decide +kernel
theorem dX10_init_89 : decode cX10_init 89 = .ok (.bipush 16, 2) := by decide +kernel
theorem dX10_init_91 : decode cX10_init 91 = .ok (.newarray .int, 2) := by decide +kernel
theorem dX10_init_93 : decode cX10_init 93 = .ok (.putfield 38, 3) := by decide +kernel
theorem dX10_init_96 : decode cX10_init 96 = .ok (.bipush 24, 2) := by decide +kernel
theorem dX10_init_98 : decode cX10_init 98 = .ok (.istore_n 1, 1) := by decide +kernel
theorem dX10_init_99 : decode cX10_init 99 = .ok (.iload_n 1, 1) := by decide +kernel
theorem dX10_init_100 : decode cX10_init 100 = .ok (.bipush 40, 2) := by decide +kernel
theorem dX10_init_102 : decode cX10_init 102 = .ok (.if_icmp .ge 17, 3) := by decide +kernel
theorem dX10_init_105 : decode cX10_init 105 = .ok (.aload_n 0, 1) := by decide +kernel
theorem dX10_init_106 : decode cX10_init 106 = .ok (.getfield 15, 3) := by decide +kernel
theorem dX10_init_109 : decode cX10_init 109 = .ok (.iload_n 1, 1) := by decide +kernel
theorem dX10_init_110 : decode cX10_init 110 = .ok (.bipush 99, 2) := by decide +kernel
theorem dX10_init_112 : decode cX10_init 112 = .ok (.iastore, 1) := by decide +kernel
theorem dX10_init_113 : decode cX10_init 113 = .ok (.iinc 1 1, 3) := by decide +kernel
theorem dX10_init_116 : decode cX10_init 116 = .ok (.goto (-17), 3) := by decide +kernel
theorem dX10_init_119 : decode cX10_init 119 = .ok (.aload_n 0, 1) := by decide +kernel
theorem dX10_init_120 : decode cX10_init 120 = .ok (.getfield 15, 3) := by decide +kernel
theorem dX10_init_123 : decode cX10_init 123 = .ok (.bipush 40, 2) := by decide +kernel
theorem dX10_init_125 : decode cX10_init 125 = .ok (.bipush 10, 2) := by decide +kernel
theorem dX10_init_127 : decode cX10_init 127 = .ok (.iastore, 1) := by decide +kernel
theorem dX10_init_128 : decode cX10_init 128 = .ok (.aload_n 0, 1) := by decide +kernel
theorem dX10_init_129 : decode cX10_init 129 = .ok (.getfield 15, 3) := by decide +kernel
theorem dX10_init_132 : decode cX10_init 132 = .ok (.bipush 41, 2) := by decide +kernel
theorem dX10_init_134 : decode cX10_init 134 = .ok (.bipush 100, 2) := by decide +kernel
theorem dX10_init_136 : decode cX10_init 136 = .ok (.iastore, 1) := by decide +kernel
theorem dX10_init_137 : decode cX10_init 137 = .ok (.aload_n 0, 1) := by decide +kernel
theorem dX10_init_138 : decode cX10_init 138 = .ok (.getfield 15, 3) := by decide +kernel
theorem dX10_init_141 : decode cX10_init 141 = .ok (.bipush 42, 2) := by decide +kernel
theorem dX10_init_143 : decode cX10_init 143 = .ok (.iconst 4, 1) := by decide +kernel
theorem dX10_init_144 : decode cX10_init 144 = .ok (.iastore, 1) := by decide +kernel
theorem dX10_init_145 : decode cX10_init 145 = .ok (.return_, 1) := by decide +kernel
theorem dX10_copy_0 : decode cX10_copy 0 = .ok (.aload_n 0, 1) := by decide +kernel
theorem dX10_copy_1 : decode cX10_copy 1 = .ok (.aload_n 1, 1) := by decide +kernel
theorem dX10_copy_2 : decode cX10_copy 2 = .ok (.getfield 9, 3) := by decide +kernel
theorem dX10_copy_5 : decode cX10_copy 5 = .ok (.putfield 9, 3) := by decide +kernel
theorem dX10_copy_8 : decode cX10_copy 8 = .ok (.aload_n 1, 1) := by decide +kernel
theorem dX10_copy_9 : decode cX10_copy 9 = .ok (.getfield 15, 3) := by decide +kernel
theorem dX10_copy_12 : decode cX10_copy 12 = .ok (.iconst 0, 1) := by decide +kernel
theorem dX10_copy_13 : decode cX10_copy 13 = .ok (.aload_n 0, 1) := by decide +kernel
theorem dX10_copy_14 : decode cX10_copy 14 = .ok (.getfield 15, 3) := by decide +kernel
theorem dX10_copy_17 : decode cX10_copy 17 = .ok (.iconst 0, 1) := by decide +kernel
theorem dX10_copy_18 : decode cX10_copy 18 = .ok (.bipush 43, 2) := by decide +kernel
theorem dX10_copy_20 : decode cX10_copy 20 = .ok (.invokestatic 41, 3) := by decide +kernel
theorem dX10_copy_23 : decode cX10_copy 23 = .ok (.aload_n 0, 1) := by decide +kernel
theorem dX10_copy_24 : decode cX10_copy 24 = .ok (.aload_n 1, 1) := by decide +kernel
theorem dX10_copy_25 : decode cX10_copy 25 = .ok (.getfield 19, 3) := by decide +kernel
theorem dX10_copy_28 : decode cX10_copy 28 = .ok (.putfield 19, 3) := by decide +kernel
theorem dX10_copy_31 : decode cX10_copy 31 = .ok (.aload_n 0, 1) := by decide +kernel
theorem dX10_copy_32 : decode cX10_copy 32 = .ok (.aload_n 1, 1) := by decide +kernel
theorem dX10_copy_33 : decode cX10_copy 33 = .ok (.getfield 22, 3) := by decide +kernel
theorem dX10_copy_36 : decode cX10_copy 36 = .ok (.putfield 22, 3) := by decide +kernel
theorem dX10_copy_39 : decode cX10_copy 39 = .ok (.aload_n 1, 1) := by decide +kernel
theorem dX10_copy_40 : decode cX10_copy 40 = .ok (.getfield 25, 3) := by decide +kernel
theorem dX10_copy_43 : decode cX10_copy 43 = .ok (.iconst 0, 1) := by decide +kernel
theorem dX10_copy_44 : decode cX10_copy 44 = .ok (.aload_n 0, 1) := by decide +kernel
theorem dX10_copy_45 : decode cX10_copy 45 = .ok (.getfield 25, 3) := by decide +kernel
theorem dX10_copy_48 : decode cX10_copy 48 = .ok (.iconst 0, 1) := by decide +kernel
theorem dX10_copy_49 : decode cX10_copy 49 = .ok (.bipush 12, 2) := by decide +kernel
theorem dX10_copy_51 : decode cX10_copy 51 = .ok (.invokestatic 41, 3) := by decide +kernel
theorem dX10_copy_54 : decode cX10_copy 54 = .ok (.iconst 0, 1) := by decide +kernel
theorem dX10_copy_55 : decode cX10_copy 55 = .ok (.istore_n 2, 1) := by decide +kernel
theorem dX10_copy_56 : decode cX10_copy 56 = .ok (.iload_n 2, 1) := by decide +kernel
theorem dX10_copy_57 : decode cX10_copy 57 = .ok (.iconst 4, 1) := by decide +kernel
theorem dX10_copy_58 : decode cX10_copy 58 = .ok (.if_icmp .ge 24, 3) := by decide +kernel
theorem dX10_copy_61 : decode cX10_copy 61 = .ok (.aload_n 0, 1) := by decide +kernel
theorem dX10_copy_62 : decode cX10_copy 62 = .ok (.getfield 31, 3) := by decide +kernel
theorem dX10_copy_65 : decode cX10_copy 65 = .ok (.iload_n 2, 1) := by decide +kernel
theorem dX10_copy_66 : decode cX10_copy 66 = .ok (.aaload, 1) := by decide +kernel
theorem dX10_copy_67 : decode cX10_copy 67 = .ok (.aload_n 1, 1) := by decide +kernel
theorem dX10_copy_68 : decode cX10_copy 68 = .ok (.getfield 31, 3) := by decide +kernel
theorem dX10_copy_71 : decode cX10_copy 71 = .ok (.iload_n 2, 1) := by decide +kernel
theorem dX10_copy_72 : decode cX10_copy 72 = .ok (.aaload, 1) := by decide +kernel
theorem dX10_copy_73 : decode cX10_copy 73 = .ok (.invokevirtual 47, 3) := by decide +kernel
theorem dX10_copy_76 : decode cX10_copy 76 = .ok (.iinc 2 1, 3) := by decide +kernel
theorem dX10_copy_79 : decode cX10_copy 79 = .ok (.goto (-23), 3) := by decide +kernel
theorem dX10_copy_82 : decode cX10_copy 82 = .ok (.aload_n 0, 1) := by decide +kernel
theorem dX10_copy_83 : decode cX10_copy 83 = .ok (.aload_n 1, 1) := by decide +kernel
theorem dX10_copy_84 : decode cX10_copy 84 = .ok (.getfield 35, 3) := by decide +kernel
theorem dX10_copy_87 : decode cX10_copy 87 = .ok (.putfield 35, 3) := by decide +kernel
theorem dX10_copy_90 : decode cX10_copy 90 = .ok (.aload_n 1, 1) := by decide +kernel
theorem dX10_copy_91 : decode cX10_copy 91 = .ok (.getfield 38, 3) := by decide +kernel
theorem dX10_copy_94 : decode cX10_copy 94 = .ok (.iconst 0, 1) := by decide +kernel
theorem dX10_copy_95 : decode cX10_copy 95 = .ok (.aload_n 0, 1) := by decide +kernel
theorem dX10_copy_96 : decode cX10_copy 96 = .ok (.getfield 38, 3) := by decide +kernel
theorem dX10_copy_99 : decode cX10_copy 99 = .ok (.iconst 0, 1) := by decide +kernel
theorem dX10_copy_100 : decode cX10_copy 100 = .ok (.bipush 16, 2) := by decide +kernel
theorem dX10_copy_102 : decode cX10_copy 102 = .ok (.invokestatic 41, 3) := by decide +kernel
theorem dX10_copy_105 : decode cX10_copy 105 = .ok (.return_, 1) := by decide +kernel
theorem dX10_isHarbour_0 : decode cX10_isHarbour 0 = .ok (.iload_n 1, 1) := by decide +kernel
theorem dX10_isHarbour_1 : decode cX10_isHarbour 1 = .ok (.ifCond .lt 24, 3) := by decide +kernel
theorem dX10_isHarbour_4 : decode cX10_isHarbour 4 = .ok (.iload_n 1, 1) := by decide +kernel
theorem dX10_isHarbour_5 : decode cX10_isHarbour 5 = .ok (.iconst 4, 1) := by decide +kernel
theorem dX10_isHarbour_6 : decode cX10_isHarbour 6 = .ok (.if_icmp .ge 19, 3) := by decide +kernel
theorem dX10_isHarbour_9 : decode cX10_isHarbour 9 = .ok (.aload_n 0, 1) := by decide +kernel
theorem dX10_isHarbour_10 : decode cX10_isHarbour 10 = .ok (.getfield 9, 3) := by decide +kernel
theorem dX10_isHarbour_13 : decode cX10_isHarbour 13 = .ok (.iload_n 1, 1) := by decide +kernel
theorem dX10_isHarbour_14 : decode cX10_isHarbour 14 = .ok (.ishr, 1) := by decide +kernel
theorem dX10_isHarbour_15 : decode cX10_isHarbour 15 = .ok (.iconst 1, 1) := by decide +kernel
theorem dX10_isHarbour_16 : decode cX10_isHarbour 16 = .ok (.iand, 1) := by decide +kernel
theorem dX10_isHarbour_17 : decode cX10_isHarbour 17 = .ok (.iconst 1, 1) := by decide +kernel
theorem dX10_isHarbour_18 : decode cX10_isHarbour 18 = .ok (.if_icmp .ne 7, 3) := by decide +kernel
theorem dX10_isHarbour_21 : decode cX10_isHarbour 21 = .ok (.iconst 1, 1) := by decide +kernel
theorem dX10_isHarbour_22 : decode cX10_isHarbour 22 = .ok (.goto 4, 3) := by decide +kernel
theorem dX10_isHarbour_25 : decode cX10_isHarbour 25 = .ok (.iconst 0, 1) := by decide +kernel
theorem dX10_isHarbour_26 : decode cX10_isHarbour 26 = .ok (.ireturn, 1) := by decide +kernel
theorem dX10_isWorld_0 : decode cX10_isWorld 0 = .ok (.iload_n 1, 1) := by decide +kernel
theorem dX10_isWorld_1 : decode cX10_isWorld 1 = .ok (.ifCond .lt 24, 3) := by decide +kernel
theorem dX10_isWorld_4 : decode cX10_isWorld 4 = .ok (.iload_n 1, 1) := by decide +kernel
theorem dX10_isWorld_5 : decode cX10_isWorld 5 = .ok (.bipush 16, 2) := by decide +kernel
theorem dX10_isWorld_7 : decode cX10_isWorld 7 = .ok (.if_icmp .ge 18, 3) := by decide +kernel
theorem dX10_isWorld_10 : decode cX10_isWorld 10 = .ok (.iload_n 1, 1) := by decide +kernel
theorem dX10_isWorld_11 : decode cX10_isWorld 11 = .ok (.aload_n 0, 1) := by decide +kernel
theorem dX10_isWorld_12 : decode cX10_isWorld 12 = .ok (.getfield 9, 3) := by decide +kernel
theorem dX10_isWorld_15 : decode cX10_isWorld 15 = .ok (.iconst (-1), 1) := by decide +kernel
theorem dX10_isWorld_16 : decode cX10_isWorld 16 = .ok (.ixor, 1) := by decide +kernel
theorem dX10_isWorld_17 : decode cX10_isWorld 17 = .ok (.iand, 1) := by decide +kernel
theorem dX10_isWorld_18 : decode cX10_isWorld 18 = .ok (.ifCond .ne 7, 3) := by decide +kernel
theorem dX10_isWorld_21 : decode cX10_isWorld 21 = .ok (.iconst 1, 1) := by decide +kernel
theorem dX10_isWorld_22 : decode cX10_isWorld 22 = .ok (.goto 4, 3) := by decide +kernel
theorem dX10_isWorld_25 : decode cX10_isWorld 25 = .ok (.iconst 0, 1) := by decide +kernel
theorem dX10_isWorld_26 : decode cX10_isWorld 26 = .ok (.ireturn, 1) := by decide +kernel
theorem dX10_isPlan_0 : decode cX10_isPlan 0 = .ok (.iload_n 1, 1) := by decide +kernel
theorem dX10_isPlan_1 : decode cX10_isPlan 1 = .ok (.ifCond .lt 10, 3) := by decide +kernel
theorem dX10_isPlan_4 : decode cX10_isPlan 4 = .ok (.iload_n 1, 1) := by decide +kernel
theorem dX10_isPlan_5 : decode cX10_isPlan 5 = .ok (.sipush 256, 3) := by decide +kernel
theorem dX10_isPlan_8 : decode cX10_isPlan 8 = .ok (.if_icmp .lt 5, 3) := by decide +kernel
theorem dX10_isPlan_11 : decode cX10_isPlan 11 = .ok (.iconst 0, 1) := by decide +kernel
theorem dX10_isPlan_12 : decode cX10_isPlan 12 = .ok (.ireturn, 1) := by decide +kernel
theorem dX10_isPlan_13 : decode cX10_isPlan 13 = .ok (.iconst 0, 1) := by decide +kernel
theorem dX10_isPlan_14 : decode cX10_isPlan 14 = .ok (.istore_n 2, 1) := by decide +kernel
theorem dX10_isPlan_15 : decode cX10_isPlan 15 = .ok (.iload_n 2, 1) := by decide +kernel
theorem dX10_isPlan_16 : decode cX10_isPlan 16 = .ok (.iconst 4, 1) := by decide +kernel
theorem dX10_isPlan_17 : decode cX10_isPlan 17 = .ok (.if_icmp .ge 32, 3) := by decide +kernel
theorem dX10_isPlan_20 : decode cX10_isPlan 20 = .ok (.iload_n 1, 1) := by decide +kernel
theorem dX10_isPlan_21 : decode cX10_isPlan 21 = .ok (.iconst 2, 1) := by decide +kernel
theorem dX10_isPlan_22 : decode cX10_isPlan 22 = .ok (.iload_n 2, 1) := by decide +kernel
theorem dX10_isPlan_23 : decode cX10_isPlan 23 = .ok (.imul, 1) := by decide +kernel
theorem dX10_isPlan_24 : decode cX10_isPlan 24 = .ok (.ishr, 1) := by decide +kernel
theorem dX10_isPlan_25 : decode cX10_isPlan 25 = .ok (.iconst 3, 1) := by decide +kernel
theorem dX10_isPlan_26 : decode cX10_isPlan 26 = .ok (.iand, 1) := by decide +kernel
theorem dX10_isPlan_27 : decode cX10_isPlan 27 = .ok (.ifCond .le 16, 3) := by decide +kernel
theorem dX10_isPlan_30 : decode cX10_isPlan 30 = .ok (.aload_n 0, 1) := by decide +kernel
theorem dX10_isPlan_31 : decode cX10_isPlan 31 = .ok (.getfield 9, 3) := by decide +kernel
theorem dX10_isPlan_34 : decode cX10_isPlan 34 = .ok (.iload_n 2, 1) := by decide +kernel
theorem dX10_isPlan_35 : decode cX10_isPlan 35 = .ok (.ishr, 1) := by decide +kernel
theorem dX10_isPlan_36 : decode cX10_isPlan 36 = .ok (.iconst 1, 1) := by decide +kernel
theorem dX10_isPlan_37 : decode cX10_isPlan 37 = .ok (.iand, 1) := by decide +kernel
theorem dX10_isPlan_38 : decode cX10_isPlan 38 = .ok (.ifCond .ne 5, 3) := by decide +kernel
theorem dX10_isPlan_41 : decode cX10_isPlan 41 = .ok (.iconst 0, 1) := by decide +kernel
theorem dX10_isPlan_42 : decode cX10_isPlan 42 = .ok (.ireturn, 1) := by decide +kernel
theorem dX10_isPlan_43 : decode cX10_isPlan 43 = .ok (.iinc 2 1, 3) := by decide +kernel
theorem dX10_isPlan_46 : decode cX10_isPlan 46 = .ok (.goto (-31), 3) := by decide +kernel
theorem dX10_isPlan_49 : decode cX10_isPlan 49 = .ok (.iconst 1, 1) := by decide +kernel
theorem dX10_isPlan_50 : decode cX10_isPlan 50 = .ok (.ireturn, 1) := by decide +kernel
theorem dX10_fare_0 : decode cX10_fare 0 = .ok (.iconst 0, 1) := by decide +kernel
theorem dX10_fare_1 : decode cX10_fare 1 = .ok (.istore_n 2, 1) := by decide +kernel
theorem dX10_fare_2 : decode cX10_fare 2 = .ok (.iconst 0, 1) := by decide +kernel
theorem dX10_fare_3 : decode cX10_fare 3 = .ok (.istore_n 3, 1) := by decide +kernel
theorem dX10_fare_4 : decode cX10_fare 4 = .ok (.iload_n 3, 1) := by decide +kernel
theorem dX10_fare_5 : decode cX10_fare 5 = .ok (.iconst 4, 1) := by decide +kernel
theorem dX10_fare_6 : decode cX10_fare 6 = .ok (.if_icmp .ge 31, 3) := by decide +kernel
theorem dX10_fare_9 : decode cX10_fare 9 = .ok (.iload_n 2, 1) := by decide +kernel
theorem dX10_fare_10 : decode cX10_fare 10 = .ok (.iload_n 1, 1) := by decide +kernel
theorem dX10_fare_11 : decode cX10_fare 11 = .ok (.iconst 2, 1) := by decide +kernel
theorem dX10_fare_12 : decode cX10_fare 12 = .ok (.iload_n 3, 1) := by decide +kernel
theorem dX10_fare_13 : decode cX10_fare 13 = .ok (.imul, 1) := by decide +kernel
theorem dX10_fare_14 : decode cX10_fare 14 = .ok (.ishr, 1) := by decide +kernel
theorem dX10_fare_15 : decode cX10_fare 15 = .ok (.iconst 3, 1) := by decide +kernel
theorem dX10_fare_16 : decode cX10_fare 16 = .ok (.iand, 1) := by decide +kernel
theorem dX10_fare_17 : decode cX10_fare 17 = .ok (.aload_n 0, 1) := by decide +kernel
theorem dX10_fare_18 : decode cX10_fare 18 = .ok (.getfield 15, 3) := by decide +kernel
theorem dX10_fare_21 : decode cX10_fare 21 = .ok (.iload_n 3, 1) := by decide +kernel
theorem dX10_fare_22 : decode cX10_fare 22 = .ok (.bipush 6, 2) := by decide +kernel
theorem dX10_fare_24 : decode cX10_fare 24 = .ok (.imul, 1) := by decide +kernel
theorem dX10_fare_25 : decode cX10_fare 25 = .ok (.iconst 2, 1) := by decide +kernel
theorem dX10_fare_26 : decode cX10_fare 26 = .ok (.iadd, 1) := by decide +kernel
theorem dX10_fare_27 : decode cX10_fare 27 = .ok (.iaload, 1) := by decide +kernel
theorem dX10_fare_28 : decode cX10_fare 28 = .ok (.imul, 1) := by decide +kernel
theorem dX10_fare_29 : decode cX10_fare 29 = .ok (.iadd, 1) := by decide +kernel
theorem dX10_fare_30 : decode cX10_fare 30 = .ok (.istore_n 2, 1) := by decide +kernel
theorem dX10_fare_31 : decode cX10_fare 31 = .ok (.iinc 3 1, 3) := by decide +kernel
theorem dX10_fare_34 : decode cX10_fare 34 = .ok (.goto (-30), 3) := by decide +kernel
theorem dX10_fare_37 : decode cX10_fare 37 = .ok (.iload_n 2, 1) := by decide +kernel
theorem dX10_fare_38 : decode cX10_fare 38 = .ok (.ireturn, 1) := by decide +kernel
theorem dX10_balance_0 : decode cX10_balance 0 = .ok (.iload_n 2, 1) := by decide +kernel
theorem dX10_balance_1 : decode cX10_balance 1 = .ok (.iconst 2, 1) := by decide +kernel
theorem dX10_balance_2 : decode cX10_balance 2 = .ok (.iload_n 1, 1) := by decide +kernel
theorem dX10_balance_3 : decode cX10_balance 3 = .ok (.imul, 1) := by decide +kernel
theorem dX10_balance_4 : decode cX10_balance 4 = .ok (.ishr, 1) := by decide +kernel
theorem dX10_balance_5 : decode cX10_balance 5 = .ok (.iconst 3, 1) := by decide +kernel
theorem dX10_balance_6 : decode cX10_balance 6 = .ok (.iand, 1) := by decide +kernel
theorem dX10_balance_7 : decode cX10_balance 7 = .ok (.aload_n 0, 1) := by decide +kernel
theorem dX10_balance_8 : decode cX10_balance 8 = .ok (.getfield 15, 3) := by decide +kernel
theorem dX10_balance_11 : decode cX10_balance 11 = .ok (.bipush 40, 2) := by decide +kernel
theorem dX10_balance_13 : decode cX10_balance 13 = .ok (.iaload, 1) := by decide +kernel
theorem dX10_balance_14 : decode cX10_balance 14 = .ok (.imul, 1) := by decide +kernel
theorem dX10_balance_15 : decode cX10_balance 15 = .ok (.istore 4, 2) := by decide +kernel
theorem dX10_balance_17 : decode cX10_balance 17 = .ok (.iload_n 3, 1) := by decide +kernel
theorem dX10_balance_18 : decode cX10_balance 18 = .ok (.iload_n 1, 1) := by decide +kernel
theorem dX10_balance_19 : decode cX10_balance 19 = .ok (.ishr, 1) := by decide +kernel
theorem dX10_balance_20 : decode cX10_balance 20 = .ok (.iconst 1, 1) := by decide +kernel
theorem dX10_balance_21 : decode cX10_balance 21 = .ok (.iand, 1) := by decide +kernel
theorem dX10_balance_22 : decode cX10_balance 22 = .ok (.aload_n 0, 1) := by decide +kernel
theorem dX10_balance_23 : decode cX10_balance 23 = .ok (.getfield 15, 3) := by decide +kernel
theorem dX10_balance_26 : decode cX10_balance 26 = .ok (.iload_n 1, 1) := by decide +kernel
theorem dX10_balance_27 : decode cX10_balance 27 = .ok (.bipush 6, 2) := by decide +kernel
theorem dX10_balance_29 : decode cX10_balance 29 = .ok (.imul, 1) := by decide +kernel
theorem dX10_balance_30 : decode cX10_balance 30 = .ok (.iconst 1, 1) := by decide +kernel
theorem dX10_balance_31 : decode cX10_balance 31 = .ok (.iadd, 1) := by decide +kernel
theorem dX10_balance_32 : decode cX10_balance 32 = .ok (.iaload, 1) := by decide +kernel
theorem dX10_balance_33 : decode cX10_balance 33 = .ok (.imul, 1) := by decide +kernel
theorem dX10_balance_34 : decode cX10_balance 34 = .ok (.istore 5, 2) := by decide +kernel
theorem dX10_balance_36 : decode cX10_balance 36 = .ok (.iload 4, 2) := by decide +kernel
theorem dX10_balance_38 : decode cX10_balance 38 = .ok (.aload_n 0, 1) := by decide +kernel
theorem dX10_balance_39 : decode cX10_balance 39 = .ok (.getfield 15, 3) := by decide +kernel
theorem dX10_balance_42 : decode cX10_balance 42 = .ok (.iload_n 1, 1) := by decide +kernel
theorem dX10_balance_43 : decode cX10_balance 43 = .ok (.bipush 6, 2) := by decide +kernel
theorem dX10_balance_45 : decode cX10_balance 45 = .ok (.imul, 1) := by decide +kernel
theorem dX10_balance_46 : decode cX10_balance 46 = .ok (.iconst 0, 1) := by decide +kernel
theorem dX10_balance_47 : decode cX10_balance 47 = .ok (.iadd, 1) := by decide +kernel
theorem dX10_balance_48 : decode cX10_balance 48 = .ok (.iaload, 1) := by decide +kernel
theorem dX10_balance_49 : decode cX10_balance 49 = .ok (.isub, 1) := by decide +kernel
theorem dX10_balance_50 : decode cX10_balance 50 = .ok (.iload 5, 2) := by decide +kernel
theorem dX10_balance_52 : decode cX10_balance 52 = .ok (.isub, 1) := by decide +kernel
theorem dX10_balance_53 : decode cX10_balance 53 = .ok (.ireturn, 1) := by decide +kernel
theorem dX10_seenBy_0 : decode cX10_seenBy 0 = .ok (.iconst 0, 1) := by decide +kernel
theorem dX10_seenBy_1 : decode cX10_seenBy 1 = .ok (.istore_n 2, 1) := by decide +kernel
theorem dX10_seenBy_2 : decode cX10_seenBy 2 = .ok (.iconst 0, 1) := by decide +kernel
theorem dX10_seenBy_3 : decode cX10_seenBy 3 = .ok (.istore_n 3, 1) := by decide +kernel
theorem dX10_seenBy_4 : decode cX10_seenBy 4 = .ok (.iload_n 3, 1) := by decide +kernel
theorem dX10_seenBy_5 : decode cX10_seenBy 5 = .ok (.iconst 4, 1) := by decide +kernel
theorem dX10_seenBy_6 : decode cX10_seenBy 6 = .ok (.if_icmp .ge 30, 3) := by decide +kernel
theorem dX10_seenBy_9 : decode cX10_seenBy 9 = .ok (.aload_n 0, 1) := by decide +kernel
theorem dX10_seenBy_10 : decode cX10_seenBy 10 = .ok (.getfield 15, 3) := by decide +kernel
theorem dX10_seenBy_13 : decode cX10_seenBy 13 = .ok (.iload_n 3, 1) := by decide +kernel
theorem dX10_seenBy_14 : decode cX10_seenBy 14 = .ok (.bipush 6, 2) := by decide +kernel
theorem dX10_seenBy_16 : decode cX10_seenBy 16 = .ok (.imul, 1) := by decide +kernel
theorem dX10_seenBy_17 : decode cX10_seenBy 17 = .ok (.iconst 5, 1) := by decide +kernel
theorem dX10_seenBy_18 : decode cX10_seenBy 18 = .ok (.iadd, 1) := by decide +kernel
theorem dX10_seenBy_19 : decode cX10_seenBy 19 = .ok (.iaload, 1) := by decide +kernel
theorem dX10_seenBy_20 : decode cX10_seenBy 20 = .ok (.iload_n 1, 1) := by decide +kernel
theorem dX10_seenBy_21 : decode cX10_seenBy 21 = .ok (.if_icmp .gt 9, 3) := by decide +kernel
theorem dX10_seenBy_24 : decode cX10_seenBy 24 = .ok (.iload_n 2, 1) := by decide +kernel
theorem dX10_seenBy_25 : decode cX10_seenBy 25 = .ok (.iconst 1, 1) := by decide +kernel
theorem dX10_seenBy_26 : decode cX10_seenBy 26 = .ok (.iload_n 3, 1) := by decide +kernel
theorem dX10_seenBy_27 : decode cX10_seenBy 27 = .ok (.ishl, 1) := by decide +kernel
theorem dX10_seenBy_28 : decode cX10_seenBy 28 = .ok (.ior, 1) := by decide +kernel
theorem dX10_seenBy_29 : decode cX10_seenBy 29 = .ok (.istore_n 2, 1) := by decide +kernel
theorem dX10_seenBy_30 : decode cX10_seenBy 30 = .ok (.iinc 3 1, 3) := by decide +kernel
theorem dX10_seenBy_33 : decode cX10_seenBy 33 = .ok (.goto (-29), 3) := by decide +kernel
theorem dX10_seenBy_36 : decode cX10_seenBy 36 = .ok (.iload_n 2, 1) := by decide +kernel
theorem dX10_seenBy_37 : decode cX10_seenBy 37 = .ok (.aload_n 0, 1) := by decide +kernel
theorem dX10_seenBy_38 : decode cX10_seenBy 38 = .ok (.getfield 9, 3) := by decide +kernel
theorem dX10_seenBy_41 : decode cX10_seenBy 41 = .ok (.iand, 1) := by decide +kernel
theorem dX10_seenBy_42 : decode cX10_seenBy 42 = .ok (.ireturn, 1) := by decide +kernel
theorem dX10_worldsWith_0 : decode cX10_worldsWith 0 = .ok (.iconst 0, 1) := by decide +kernel
theorem dX10_worldsWith_1 : decode cX10_worldsWith 1 = .ok (.istore_n 2, 1) := by decide +kernel
theorem dX10_worldsWith_2 : decode cX10_worldsWith 2 = .ok (.iconst 0, 1) := by decide +kernel
theorem dX10_worldsWith_3 : decode cX10_worldsWith 3 = .ok (.istore_n 3, 1) := by decide +kernel
theorem dX10_worldsWith_4 : decode cX10_worldsWith 4 = .ok (.iload_n 3, 1) := by decide +kernel
theorem dX10_worldsWith_5 : decode cX10_worldsWith 5 = .ok (.bipush 16, 2) := by decide +kernel
theorem dX10_worldsWith_7 : decode cX10_worldsWith 7 = .ok (.if_icmp .ge 31, 3) := by decide +kernel
theorem dX10_worldsWith_10 : decode cX10_worldsWith 10 = .ok (.aload_n 0, 1) := by decide +kernel
theorem dX10_worldsWith_11 : decode cX10_worldsWith 11 = .ok (.iload_n 3, 1) := by decide +kernel
theorem dX10_worldsWith_12 : decode cX10_worldsWith 12 = .ok (.invokevirtual 51, 3) := by decide +kernel
theorem dX10_worldsWith_15 : decode cX10_worldsWith 15 = .ok (.ifCond .eq 17, 3) := by decide +kernel
theorem dX10_worldsWith_18 : decode cX10_worldsWith 18 = .ok (.iload_n 3, 1) := by decide +kernel
theorem dX10_worldsWith_19 : decode cX10_worldsWith 19 = .ok (.invokestatic 55, 3) := by decide +kernel
theorem dX10_worldsWith_22 : decode cX10_worldsWith 22 = .ok (.iload_n 1, 1) := by decide +kernel
theorem dX10_worldsWith_23 : decode cX10_worldsWith 23 = .ok (.if_icmp .gt 9, 3) := by decide +kernel
theorem dX10_worldsWith_26 : decode cX10_worldsWith 26 = .ok (.iload_n 2, 1) := by decide +kernel
theorem dX10_worldsWith_27 : decode cX10_worldsWith 27 = .ok (.iconst 1, 1) := by decide +kernel
theorem dX10_worldsWith_28 : decode cX10_worldsWith 28 = .ok (.iload_n 3, 1) := by decide +kernel
theorem dX10_worldsWith_29 : decode cX10_worldsWith 29 = .ok (.ishl, 1) := by decide +kernel
theorem dX10_worldsWith_30 : decode cX10_worldsWith 30 = .ok (.ior, 1) := by decide +kernel
theorem dX10_worldsWith_31 : decode cX10_worldsWith 31 = .ok (.istore_n 2, 1) := by decide +kernel
theorem dX10_worldsWith_32 : decode cX10_worldsWith 32 = .ok (.iinc 3 1, 3) := by decide +kernel
theorem dX10_worldsWith_35 : decode cX10_worldsWith 35 = .ok (.goto (-31), 3) := by decide +kernel
theorem dX10_worldsWith_38 : decode cX10_worldsWith 38 = .ok (.iconst 0, 1) := by decide +kernel
theorem dX10_worldsWith_39 : decode cX10_worldsWith 39 = .ok (.istore_n 3, 1) := by decide +kernel
theorem dX10_worldsWith_40 : decode cX10_worldsWith 40 = .ok (.iload_n 3, 1) := by decide +kernel
theorem dX10_worldsWith_41 : decode cX10_worldsWith 41 = .ok (.aload_n 0, 1) := by decide +kernel
theorem dX10_worldsWith_42 : decode cX10_worldsWith 42 = .ok (.getfield 19, 3) := by decide +kernel
theorem dX10_worldsWith_45 : decode cX10_worldsWith 45 = .ok (.if_icmp .ge 30, 3) := by decide +kernel
theorem dX10_worldsWith_48 : decode cX10_worldsWith 48 = .ok (.aload_n 0, 1) := by decide +kernel
theorem dX10_worldsWith_49 : decode cX10_worldsWith 49 = .ok (.getfield 22, 3) := by decide +kernel
theorem dX10_worldsWith_52 : decode cX10_worldsWith 52 = .ok (.iload_n 3, 1) := by decide +kernel
theorem dX10_worldsWith_53 : decode cX10_worldsWith 53 = .ok (.ishr, 1) := by decide +kernel
theorem dX10_worldsWith_54 : decode cX10_worldsWith 54 = .ok (.iconst 1, 1) := by decide +kernel
theorem dX10_worldsWith_55 : decode cX10_worldsWith 55 = .ok (.iand, 1) := by decide +kernel
theorem dX10_worldsWith_56 : decode cX10_worldsWith 56 = .ok (.iconst 1, 1) := by decide +kernel
theorem dX10_worldsWith_57 : decode cX10_worldsWith 57 = .ok (.if_icmp .ne 12, 3) := by decide +kernel
theorem dX10_worldsWith_60 : decode cX10_worldsWith 60 = .ok (.iload_n 2, 1) := by decide +kernel
theorem dX10_worldsWith_61 : decode cX10_worldsWith 61 = .ok (.aload_n 0, 1) := by decide +kernel
theorem dX10_worldsWith_62 : decode cX10_worldsWith 62 = .ok (.getfield 25, 3) := by decide +kernel
theorem dX10_worldsWith_65 : decode cX10_worldsWith 65 = .ok (.iload_n 3, 1) := by decide +kernel
theorem dX10_worldsWith_66 : decode cX10_worldsWith 66 = .ok (.iaload, 1) := by decide +kernel
theorem dX10_worldsWith_67 : decode cX10_worldsWith 67 = .ok (.iand, 1) := by decide +kernel
theorem dX10_worldsWith_68 : decode cX10_worldsWith 68 = .ok (.istore_n 2, 1) := by decide +kernel
theorem dX10_worldsWith_69 : decode cX10_worldsWith 69 = .ok (.iinc 3 1, 3) := by decide +kernel
theorem dX10_worldsWith_72 : decode cX10_worldsWith 72 = .ok (.goto (-32), 3) := by decide +kernel
theorem dX10_worldsWith_75 : decode cX10_worldsWith 75 = .ok (.iload_n 2, 1) := by decide +kernel
theorem dX10_worldsWith_76 : decode cX10_worldsWith 76 = .ok (.ireturn, 1) := by decide +kernel
theorem dX10_addLaw_0 : decode cX10_addLaw 0 = .ok (.aload_n 0, 1) := by decide +kernel
theorem dX10_addLaw_1 : decode cX10_addLaw 1 = .ok (.getfield 19, 3) := by decide +kernel
theorem dX10_addLaw_4 : decode cX10_addLaw 4 = .ok (.bipush 12, 2) := by decide +kernel
theorem dX10_addLaw_6 : decode cX10_addLaw 6 = .ok (.if_icmp .lt 6, 3) := by decide +kernel
theorem dX10_addLaw_9 : decode cX10_addLaw 9 = .ok (.bipush (-9), 2) := by decide +kernel
theorem dX10_addLaw_11 : decode cX10_addLaw 11 = .ok (.ireturn, 1) := by decide +kernel
theorem dX10_addLaw_12 : decode cX10_addLaw 12 = .ok (.aload_n 0, 1) := by decide +kernel
theorem dX10_addLaw_13 : decode cX10_addLaw 13 = .ok (.getfield 25, 3) := by decide +kernel
theorem dX10_addLaw_16 : decode cX10_addLaw 16 = .ok (.aload_n 0, 1) := by decide +kernel
theorem dX10_addLaw_17 : decode cX10_addLaw 17 = .ok (.getfield 19, 3) := by decide +kernel
theorem dX10_addLaw_20 : decode cX10_addLaw 20 = .ok (.iload_n 1, 1) := by decide +kernel
theorem dX10_addLaw_21 : decode cX10_addLaw 21 = .ok (.iastore, 1) := by decide +kernel
theorem dX10_addLaw_22 : decode cX10_addLaw 22 = .ok (.aload_n 0, 1) := by decide +kernel
theorem dX10_addLaw_23 : decode cX10_addLaw 23 = .ok (.dup, 1) := by decide +kernel
theorem dX10_addLaw_24 : decode cX10_addLaw 24 = .ok (.getfield 22, 3) := by decide +kernel
theorem dX10_addLaw_27 : decode cX10_addLaw 27 = .ok (.iconst 1, 1) := by decide +kernel
theorem dX10_addLaw_28 : decode cX10_addLaw 28 = .ok (.aload_n 0, 1) := by decide +kernel
theorem dX10_addLaw_29 : decode cX10_addLaw 29 = .ok (.getfield 19, 3) := by decide +kernel
theorem dX10_addLaw_32 : decode cX10_addLaw 32 = .ok (.ishl, 1) := by decide +kernel
theorem dX10_addLaw_33 : decode cX10_addLaw 33 = .ok (.ior, 1) := by decide +kernel
theorem dX10_addLaw_34 : decode cX10_addLaw 34 = .ok (.putfield 22, 3) := by decide +kernel
theorem dX10_addLaw_37 : decode cX10_addLaw 37 = .ok (.aload_n 0, 1) := by decide +kernel
theorem dX10_addLaw_38 : decode cX10_addLaw 38 = .ok (.dup, 1) := by decide +kernel
theorem dX10_addLaw_39 : decode cX10_addLaw 39 = .ok (.getfield 19, 3) := by decide +kernel
theorem dX10_addLaw_42 : decode cX10_addLaw 42 = .ok (.iconst 1, 1) := by decide +kernel
theorem dX10_addLaw_43 : decode cX10_addLaw 43 = .ok (.iadd, 1) := by decide +kernel
theorem dX10_addLaw_44 : decode cX10_addLaw 44 = .ok (.putfield 19, 3) := by decide +kernel
theorem dX10_addLaw_47 : decode cX10_addLaw 47 = .ok (.aload_n 0, 1) := by decide +kernel
theorem dX10_addLaw_48 : decode cX10_addLaw 48 = .ok (.getfield 19, 3) := by decide +kernel
theorem dX10_addLaw_51 : decode cX10_addLaw 51 = .ok (.iconst 1, 1) := by decide +kernel
theorem dX10_addLaw_52 : decode cX10_addLaw 52 = .ok (.isub, 1) := by decide +kernel
theorem dX10_addLaw_53 : decode cX10_addLaw 53 = .ok (.ireturn, 1) := by decide +kernel
theorem dX10_rulesTold_0 : decode cX10_rulesTold 0 = .ok (.iconst 0, 1) := by decide +kernel
theorem dX10_rulesTold_1 : decode cX10_rulesTold 1 = .ok (.istore_n 1, 1) := by decide +kernel
theorem dX10_rulesTold_2 : decode cX10_rulesTold 2 = .ok (.iconst 0, 1) := by decide +kernel
theorem dX10_rulesTold_3 : decode cX10_rulesTold 3 = .ok (.istore_n 2, 1) := by decide +kernel
theorem dX10_rulesTold_4 : decode cX10_rulesTold 4 = .ok (.iload_n 2, 1) := by decide +kernel
theorem dX10_rulesTold_5 : decode cX10_rulesTold 5 = .ok (.iconst 4, 1) := by decide +kernel
theorem dX10_rulesTold_6 : decode cX10_rulesTold 6 = .ok (.if_icmp .ge 24, 3) := by decide +kernel
theorem dX10_rulesTold_9 : decode cX10_rulesTold 9 = .ok (.aload_n 0, 1) := by decide +kernel
theorem dX10_rulesTold_10 : decode cX10_rulesTold 10 = .ok (.getfield 31, 3) := by decide +kernel
theorem dX10_rulesTold_13 : decode cX10_rulesTold 13 = .ok (.iload_n 2, 1) := by decide +kernel
theorem dX10_rulesTold_14 : decode cX10_rulesTold 14 = .ok (.aaload, 1) := by decide +kernel
theorem dX10_rulesTold_15 : decode cX10_rulesTold 15 = .ok (.getfield 61, 3) := by decide +kernel
theorem dX10_rulesTold_18 : decode cX10_rulesTold 18 = .ok (.ifCond .le 6, 3) := by decide +kernel
theorem dX10_rulesTold_21 : decode cX10_rulesTold 21 = .ok (.iinc 1 1, 3) := by decide +kernel
theorem dX10_rulesTold_24 : decode cX10_rulesTold 24 = .ok (.iinc 2 1, 3) := by decide +kernel
theorem dX10_rulesTold_27 : decode cX10_rulesTold 27 = .ok (.goto (-23), 3) := by decide +kernel
theorem dX10_rulesTold_30 : decode cX10_rulesTold 30 = .ok (.iload_n 1, 1) := by decide +kernel
theorem dX10_rulesTold_31 : decode cX10_rulesTold 31 = .ok (.ireturn, 1) := by decide +kernel
theorem dX10_yearsIn_0 : decode cX10_yearsIn 0 = .ok (.iconst 0, 1) := by decide +kernel
theorem dX10_yearsIn_1 : decode cX10_yearsIn 1 = .ok (.istore_n 2, 1) := by decide +kernel
theorem dX10_yearsIn_2 : decode cX10_yearsIn 2 = .ok (.iconst 0, 1) := by decide +kernel
theorem dX10_yearsIn_3 : decode cX10_yearsIn 3 = .ok (.istore_n 3, 1) := by decide +kernel
theorem dX10_yearsIn_4 : decode cX10_yearsIn 4 = .ok (.iload_n 3, 1) := by decide +kernel
theorem dX10_yearsIn_5 : decode cX10_yearsIn 5 = .ok (.bipush 16, 2) := by decide +kernel
theorem dX10_yearsIn_7 : decode cX10_yearsIn 7 = .ok (.if_icmp .ge 27, 3) := by decide +kernel
theorem dX10_yearsIn_10 : decode cX10_yearsIn 10 = .ok (.iload_n 1, 1) := by decide +kernel
theorem dX10_yearsIn_11 : decode cX10_yearsIn 11 = .ok (.iload_n 3, 1) := by decide +kernel
theorem dX10_yearsIn_12 : decode cX10_yearsIn 12 = .ok (.ishr, 1) := by decide +kernel
theorem dX10_yearsIn_13 : decode cX10_yearsIn 13 = .ok (.iconst 1, 1) := by decide +kernel
theorem dX10_yearsIn_14 : decode cX10_yearsIn 14 = .ok (.iand, 1) := by decide +kernel
theorem dX10_yearsIn_15 : decode cX10_yearsIn 15 = .ok (.iconst 1, 1) := by decide +kernel
theorem dX10_yearsIn_16 : decode cX10_yearsIn 16 = .ok (.if_icmp .ne 12, 3) := by decide +kernel
theorem dX10_yearsIn_19 : decode cX10_yearsIn 19 = .ok (.iload_n 2, 1) := by decide +kernel
theorem dX10_yearsIn_20 : decode cX10_yearsIn 20 = .ok (.aload_n 0, 1) := by decide +kernel
theorem dX10_yearsIn_21 : decode cX10_yearsIn 21 = .ok (.getfield 38, 3) := by decide +kernel
theorem dX10_yearsIn_24 : decode cX10_yearsIn 24 = .ok (.iload_n 3, 1) := by decide +kernel
theorem dX10_yearsIn_25 : decode cX10_yearsIn 25 = .ok (.iaload, 1) := by decide +kernel
theorem dX10_yearsIn_26 : decode cX10_yearsIn 26 = .ok (.iadd, 1) := by decide +kernel
theorem dX10_yearsIn_27 : decode cX10_yearsIn 27 = .ok (.istore_n 2, 1) := by decide +kernel
theorem dX10_yearsIn_28 : decode cX10_yearsIn 28 = .ok (.iinc 3 1, 3) := by decide +kernel
theorem dX10_yearsIn_31 : decode cX10_yearsIn 31 = .ok (.goto (-27), 3) := by decide +kernel
theorem dX10_yearsIn_34 : decode cX10_yearsIn 34 = .ok (.iload_n 2, 1) := by decide +kernel
theorem dX10_yearsIn_35 : decode cX10_yearsIn 35 = .ok (.ireturn, 1) := by decide +kernel
theorem dX11_init_0 : decode cX11_init 0 = .ok (.aload_n 0, 1) := by decide +kernel
theorem dX11_init_1 : decode cX11_init 1 = .ok (.invokespecial 3, 3) := by decide +kernel
theorem dX11_init_4 : decode cX11_init 4 = .ok (.aload_n 0, 1) := by decide +kernel
theorem dX11_init_5 : decode cX11_init 5 = .ok (.new 9, 3) := by decide +kernel
theorem dX11_init_8 : decode cX11_init 8 = .ok (.dup, 1) := by decide +kernel
theorem dX11_init_9 : decode cX11_init 9 = .ok (.invokespecial 11, 3) := by decide +kernel
theorem dX11_init_12 : decode cX11_init 12 = .ok (.putfield 12, 3) := by decide +kernel
theorem dX11_init_15 : decode cX11_init 15 = .ok (.aload_n 0, 1) := by decide +kernel
theorem dX11_init_16 : decode cX11_init 16 = .ok (.new 9, 3) := by decide +kernel
theorem dX11_init_19 : decode cX11_init 19 = .ok (.dup, 1) := by decide +kernel
theorem dX11_init_20 : decode cX11_init 20 = .ok (.invokespecial 11, 3) := by decide +kernel
theorem dX11_init_23 : decode cX11_init 23 = .ok (.putfield 16, 3) := by decide +kernel
theorem dX11_init_26 : decode cX11_init 26 = .ok (.aload_n 0, 1) := by decide +kernel
theorem dX11_init_27 : decode cX11_init 27 = .ok (.iconst 0, 1) := by decide +kernel
theorem dX11_init_28 : decode cX11_init 28 = .ok (.putfield 19, 3) := by decide +kernel
theorem dX11_init_31 : decode cX11_init 31 = .ok (.aload_n 0, 1) := by decide +kernel
theorem dX11_init_32 : decode cX11_init 32 = .ok (.new 23, 3) := by decide +kernel
theorem dX11_init_35 : decode cX11_init 35 = .ok (.dup, 1) := by decide +kernel
theorem dX11_init_36 : decode cX11_init 36 = .ok (.invokespecial 25, 3) := by decide +kernel
theorem dX11_init_39 : decode cX11_init 39 = .ok (.putfield 26, 3) := by decide +kernel
theorem dX11_init_42 : decode cX11_init 42 = .ok (.aload_n 0, 1) := by decide +kernel
theorem dX11_init_43 : decode cX11_init 43 = .ok (.new 30, 3) := by decide +kernel
theorem dX11_init_46 : decode cX11_init 46 = .ok (.dup, 1) := by decide +kernel
theorem dX11_init_47 : decode cX11_init 47 = .ok (.invokespecial 32, 3) := by decide +kernel
theorem dX11_init_50 : decode cX11_init 50 = .ok (.putfield 33, 3) := by decide +kernel
theorem dX11_init_53 : decode cX11_init 53 = .ok (.aload_n 0, 1) := by decide +kernel
theorem dX11_init_54 : decode cX11_init 54 = .ok (.bipush 12, 2) := by decide +kernel
theorem dX11_init_56 : decode cX11_init 56 = .ok (.newarray .int, 2) := by decide +kernel
theorem dX11_init_58 : decode cX11_init 58 = .ok (.putfield 37, 3) := by decide +kernel
theorem dX11_init_61 : decode cX11_init 61 = .ok (.aload_n 0, 1) := by decide +kernel
theorem dX11_init_62 : decode cX11_init 62 = .ok (.iconst 0, 1) := by decide +kernel
theorem dX11_init_63 : decode cX11_init 63 = .ok (.putfield 41, 3) := by decide +kernel
theorem dX11_init_66 : decode cX11_init 66 = .ok (.aload_n 0, 1) := by decide +kernel
theorem dX11_init_67 : decode cX11_init 67 = .ok (.bipush 7, 2) := by decide +kernel
theorem dX11_init_69 : decode cX11_init 69 = .ok (.newarray .int, 2) := by decide +kernel
theorem dX11_init_71 : decode cX11_init 71 = .ok (.putfield 45, 3) := by decide +kernel
theorem dX11_init_74 : decode cX11_init 74 = .ok (.aload_n 0, 1) := by decide +kernel
theorem dX11_init_75 : decode cX11_init 75 = .ok (.new 48, 3) := by decide +kernel
theorem dX11_init_78 : decode cX11_init 78 = .ok (.dup, 1) := by decide +kernel
theorem dX11_init_79 : decode cX11_init 79 = .ok (.aload_n 0, 1) := by decide +kernel
theorem dX11_init_80 : decode cX11_init 80 = .ok (.getfield 12, 3) := by decide +kernel
theorem dX11_init_83 : decode cX11_init 83 = .ok (.invokespecial 50, 3) := by decide +kernel
theorem dX11_init_86 : decode cX11_init 86 = .ok (.putfield 53, 3) := by decide +kernel
theorem dX11_init_89 : decode cX11_init 89 = .ok (.aload_n 0, 1) := by decide +kernel
theorem dX11_init_90 : decode cX11_init 90 = .ok (.new 57, 3) := by decide +kernel
theorem dX11_init_93 : decode cX11_init 93 = .ok (.dup, 1) := by decide +kernel
theorem dX11_init_94 : decode cX11_init 94 = .ok (.aload_n 0, 1) := by decide +kernel
theorem dX11_init_95 : decode cX11_init 95 = .ok (.getfield 12, 3) := by decide +kernel
theorem dX11_init_98 : decode cX11_init 98 = .ok (.invokespecial 59, 3) := by decide +kernel
theorem dX11_init_101 : decode cX11_init 101 = .ok (.putfield 60, 3) := by decide +kernel
theorem dX11_init_104 : decode cX11_init 104 = .ok (.aload_n 0, 1) := by decide +kernel
theorem dX11_init_105 : decode cX11_init 105 = .ok (.new 64, 3) := by decide +kernel
theorem dX11_init_108 : decode cX11_init 108 = .ok (.dup, 1) := by decide +kernel
theorem dX11_init_109 : decode cX11_init 109 = .ok (.aload_n 0, 1) := by decide +kernel
theorem dX11_init_110 : decode cX11_init 110 = .ok (.getfield 60, 3) := by decide +kernel
theorem dX11_init_113 : decode cX11_init 113 = .ok (.invokespecial 66, 3) := by decide +kernel
theorem dX11_init_116 : decode cX11_init 116 = .ok (.putfield 69, 3) := by decide +kernel
theorem dX11_init_119 : decode cX11_init 119 = .ok (.aload_n 0, 1) := by decide +kernel
theorem dX11_init_120 : decode cX11_init 120 = .ok (.new 73, 3) := by decide +kernel
theorem dX11_init_123 : decode cX11_init 123 = .ok (.dup, 1) := by decide +kernel
theorem dX11_init_124 : decode cX11_init 124 = .ok (.aload_n 0, 1) := by decide +kernel
theorem dX11_init_125 : decode cX11_init 125 = .ok (.getfield 60, 3) := by decide +kernel
theorem dX11_init_128 : decode cX11_init 128 = .ok (.invokespecial 75, 3) := by decide +kernel
theorem dX11_init_131 : decode cX11_init 131 = .ok (.putfield 76, 3) := by decide +kernel
theorem dX11_init_134 : decode cX11_init 134 = .ok (.return_, 1) := by decide +kernel
theorem dX11_harbour_0 : decode cX11_harbour 0 = .ok (.iload_n 1, 1) := by decide +kernel
theorem dX11_harbour_1 : decode cX11_harbour 1 = .ok (.ifCond .lt 8, 3) := by decide +kernel
theorem dX11_harbour_4 : decode cX11_harbour 4 = .ok (.iload_n 1, 1) := by decide +kernel
theorem dX11_harbour_5 : decode cX11_harbour 5 = .ok (.iconst 4, 1) := by decide +kernel
theorem dX11_harbour_6 : decode cX11_harbour 6 = .ok (.if_icmp .lt 9, 3) := by decide +kernel
theorem dX11_harbour_9 : decode cX11_harbour 9 = .ok (.aload_n 0, 1) := by decide +kernel
theorem dX11_harbour_10 : decode cX11_harbour 10 = .ok (.iconst (-1), 1) := by decide +kernel
theorem dX11_harbour_11 : decode cX11_harbour 11 = .ok (.invokevirtual 80, 3) := by decide +kernel
theorem dX11_harbour_14 : decode cX11_harbour 14 = .ok (.ireturn, 1) := by decide +kernel
theorem dX11_harbour_15 : decode cX11_harbour 15 = .ok (.aload_n 0, 1) := by decide +kernel
theorem dX11_harbour_16 : decode cX11_harbour 16 = .ok (.getfield 12, 3) := by decide +kernel
theorem dX11_harbour_19 : decode cX11_harbour 19 = .ok (.iload_n 1, 1) := by decide +kernel
theorem dX11_harbour_20 : decode cX11_harbour 20 = .ok (.invokevirtual 84, 3) := by decide +kernel
theorem dX11_harbour_23 : decode cX11_harbour 23 = .ok (.ifCond .eq 10, 3) := by decide +kernel
theorem dX11_harbour_26 : decode cX11_harbour 26 = .ok (.aload_n 0, 1) := by decide +kernel
theorem dX11_harbour_27 : decode cX11_harbour 27 = .ok (.bipush (-3), 2) := by decide +kernel
theorem dX11_harbour_29 : decode cX11_harbour 29 = .ok (.invokevirtual 80, 3) := by decide +kernel
theorem dX11_harbour_32 : decode cX11_harbour 32 = .ok (.ireturn, 1) := by decide +kernel
theorem dX11_harbour_33 : decode cX11_harbour 33 = .ok (.aload_n 0, 1) := by decide +kernel
theorem dX11_harbour_34 : decode cX11_harbour 34 = .ok (.getfield 12, 3) := by decide +kernel
theorem dX11_harbour_37 : decode cX11_harbour 37 = .ok (.dup, 1) := by decide +kernel
theorem dX11_harbour_38 : decode cX11_harbour 38 = .ok (.getfield 88, 3) := by decide +kernel
theorem dX11_harbour_41 : decode cX11_harbour 41 = .ok (.iconst 1, 1) := by decide +kernel
theorem dX11_harbour_42 : decode cX11_harbour 42 = .ok (.iload_n 1, 1) := by decide +kernel
theorem dX11_harbour_43 : decode cX11_harbour 43 = .ok (.ishl, 1) := by decide +kernel
theorem dX11_harbour_44 : decode cX11_harbour 44 = .ok (.ior, 1) := by decide +kernel
theorem dX11_harbour_45 : decode cX11_harbour 45 = .ok (.putfield 88, 3) := by decide +kernel
theorem dX11_harbour_48 : decode cX11_harbour 48 = .ok (.aload_n 0, 1) := by decide +kernel
theorem dX11_harbour_49 : decode cX11_harbour 49 = .ok (.getfield 60, 3) := by decide +kernel
theorem dX11_harbour_52 : decode cX11_harbour 52 = .ok (.invokevirtual 91, 3) := by decide +kernel
theorem dX11_harbour_55 : decode cX11_harbour 55 = .ok (.iconst 1, 1) := by decide +kernel
theorem dX11_harbour_56 : decode cX11_harbour 56 = .ok (.ireturn, 1) := by decide +kernel
theorem dX11_tell_0 : decode cX11_tell 0 = .ok (.aload_n 0, 1) := by decide +kernel
theorem dX11_tell_1 : decode cX11_tell 1 = .ok (.getfield 12, 3) := by decide +kernel
theorem dX11_tell_4 : decode cX11_tell 4 = .ok (.iload_n 1, 1) := by decide +kernel
theorem dX11_tell_5 : decode cX11_tell 5 = .ok (.invokevirtual 84, 3) := by decide +kernel
theorem dX11_tell_8 : decode cX11_tell 8 = .ok (.ifCond .ne 9, 3) := by decide +kernel
theorem dX11_tell_11 : decode cX11_tell 11 = .ok (.aload_n 0, 1) := by decide +kernel
theorem dX11_tell_12 : decode cX11_tell 12 = .ok (.iconst (-1), 1) := by decide +kernel
theorem dX11_tell_13 : decode cX11_tell 13 = .ok (.invokevirtual 80, 3) := by decide +kernel
theorem dX11_tell_16 : decode cX11_tell 16 = .ok (.ireturn, 1) := by decide +kernel
theorem dX11_tell_17 : decode cX11_tell 17 = .ok (.iload_n 2, 1) := by decide +kernel
theorem dX11_tell_18 : decode cX11_tell 18 = .ok (.ifCond .lt 9, 3) := by decide +kernel
theorem dX11_tell_21 : decode cX11_tell 21 = .ok (.iload_n 2, 1) := by decide +kernel
theorem dX11_tell_22 : decode cX11_tell 22 = .ok (.bipush 6, 2) := by decide +kernel
theorem dX11_tell_24 : decode cX11_tell 24 = .ok (.if_icmp .lt 10, 3) := by decide +kernel
theorem dX11_tell_27 : decode cX11_tell 27 = .ok (.aload_n 0, 1) := by decide +kernel
theorem dX11_tell_28 : decode cX11_tell 28 = .ok (.bipush (-2), 2) := by decide +kernel
theorem dX11_tell_30 : decode cX11_tell 30 = .ok (.invokevirtual 80, 3) := by decide +kernel
theorem dX11_tell_33 : decode cX11_tell 33 = .ok (.ireturn, 1) := by decide +kernel
theorem dX11_tell_34 : decode cX11_tell 34 = .ok (.aload_n 0, 1) := by decide +kernel
theorem dX11_tell_35 : decode cX11_tell 35 = .ok (.iload_n 1, 1) := by decide +kernel
theorem dX11_tell_36 : decode cX11_tell 36 = .ok (.bipush 6, 2) := by decide +kernel
theorem dX11_tell_38 : decode cX11_tell 38 = .ok (.imul, 1) := by decide +kernel
theorem dX11_tell_39 : decode cX11_tell 39 = .ok (.iload_n 2, 1) := by decide +kernel
theorem dX11_tell_40 : decode cX11_tell 40 = .ok (.iadd, 1) := by decide +kernel
theorem dX11_tell_41 : decode cX11_tell 41 = .ok (.iload_n 3, 1) := by decide +kernel
theorem dX11_tell_42 : decode cX11_tell 42 = .ok (.iconst 0, 1) := by decide +kernel
theorem dX11_tell_43 : decode cX11_tell 43 = .ok (.getstatic 94, 3) := by decide +kernel
theorem dX11_tell_46 : decode cX11_tell 46 = .ok (.iload_n 2, 1) := by decide +kernel
theorem dX11_tell_47 : decode cX11_tell 47 = .ok (.iaload, 1) := by decide +kernel
theorem dX11_tell_48 : decode cX11_tell 48 = .ok (.invokevirtual 97, 3) := by decide +kernel
theorem dX11_tell_51 : decode cX11_tell 51 = .ok (.ireturn, 1) := by decide +kernel
theorem dX11_move_0 : decode cX11_move 0 = .ok (.aload_n 0, 1) := by decide +kernel
theorem dX11_move_1 : decode cX11_move 1 = .ok (.getfield 12, 3) := by decide +kernel
theorem dX11_move_4 : decode cX11_move 4 = .ok (.iload_n 1, 1) := by decide +kernel
theorem dX11_move_5 : decode cX11_move 5 = .ok (.invokevirtual 84, 3) := by decide +kernel
theorem dX11_move_8 : decode cX11_move 8 = .ok (.ifCond .eq 19, 3) := by decide +kernel
theorem dX11_move_11 : decode cX11_move 11 = .ok (.aload_n 0, 1) := by decide +kernel
theorem dX11_move_12 : decode cX11_move 12 = .ok (.getfield 12, 3) := by decide +kernel
theorem dX11_move_15 : decode cX11_move 15 = .ok (.iload_n 2, 1) := by decide +kernel
theorem dX11_move_16 : decode cX11_move 16 = .ok (.invokevirtual 84, 3) := by decide +kernel
theorem dX11_move_19 : decode cX11_move 19 = .ok (.ifCond .eq 8, 3) := by decide +kernel
theorem dX11_move_22 : decode cX11_move 22 = .ok (.iload_n 1, 1) := by decide +kernel
theorem dX11_move_23 : decode cX11_move 23 = .ok (.iload_n 2, 1) := by decide +kernel
theorem dX11_move_24 : decode cX11_move 24 = .ok (.if_icmp .ne 9, 3) := by decide +kernel
theorem dX11_move_27 : decode cX11_move 27 = .ok (.aload_n 0, 1) := by decide +kernel
theorem dX11_move_28 : decode cX11_move 28 = .ok (.iconst (-1), 1) := by decide +kernel
theorem dX11_move_29 : decode cX11_move 29 = .ok (.invokevirtual 80, 3) := by decide +kernel
theorem dX11_move_32 : decode cX11_move 32 = .ok (.ireturn, 1) := by decide +kernel
theorem dX11_move_33 : decode cX11_move 33 = .ok (.aload_n 0, 1) := by decide +kernel
theorem dX11_move_34 : decode cX11_move 34 = .ok (.bipush 24, 2) := by decide +kernel
theorem dX11_move_36 : decode cX11_move 36 = .ok (.iload_n 1, 1) := by decide +kernel
theorem dX11_move_37 : decode cX11_move 37 = .ok (.iconst 4, 1) := by decide +kernel
theorem dX11_move_38 : decode cX11_move 38 = .ok (.imul, 1) := by decide +kernel
theorem dX11_move_39 : decode cX11_move 39 = .ok (.iadd, 1) := by decide +kernel
theorem dX11_move_40 : decode cX11_move 40 = .ok (.iload_n 2, 1) := by decide +kernel
theorem dX11_move_41 : decode cX11_move 41 = .ok (.iadd, 1) := by decide +kernel
theorem dX11_move_42 : decode cX11_move 42 = .ok (.iload_n 3, 1) := by decide +kernel
theorem dX11_move_43 : decode cX11_move 43 = .ok (.iconst 0, 1) := by decide +kernel
theorem dX11_move_44 : decode cX11_move 44 = .ok (.bipush 99, 2) := by decide +kernel
theorem dX11_move_46 : decode cX11_move 46 = .ok (.invokevirtual 97, 3) := by decide +kernel
theorem dX11_move_49 : decode cX11_move 49 = .ok (.ireturn, 1) := by decide +kernel
theorem dX11_set_0 : decode cX11_set 0 = .ok (.iload_n 1, 1) := by decide +kernel
theorem dX11_set_1 : decode cX11_set 1 = .ok (.ifCond .lt 11, 3) := by decide +kernel
theorem dX11_set_4 : decode cX11_set 4 = .ok (.iload_n 1, 1) := by decide +kernel
theorem dX11_set_5 : decode cX11_set 5 = .ok (.getstatic 101, 3) := by decide +kernel
theorem dX11_set_8 : decode cX11_set 8 = .ok (.arraylength, 1) := by decide +kernel
theorem dX11_set_9 : decode cX11_set 9 = .ok (.if_icmp .lt 10, 3) := by decide +kernel
theorem dX11_set_12 : decode cX11_set 12 = .ok (.aload_n 0, 1) := by decide +kernel
theorem dX11_set_13 : decode cX11_set 13 = .ok (.bipush (-2), 2) := by decide +kernel
theorem dX11_set_15 : decode cX11_set 15 = .ok (.invokevirtual 80, 3) := by decide +kernel
theorem dX11_set_18 : decode cX11_set 18 = .ok (.ireturn, 1) := by decide +kernel
theorem dX11_set_19 : decode cX11_set 19 = .ok (.aload_n 0, 1) := by decide +kernel
theorem dX11_set_20 : decode cX11_set 20 = .ok (.bipush 40, 2) := by decide +kernel
theorem dX11_set_22 : decode cX11_set 22 = .ok (.iload_n 1, 1) := by decide +kernel
theorem dX11_set_23 : decode cX11_set 23 = .ok (.iadd, 1) := by decide +kernel
theorem dX11_set_24 : decode cX11_set 24 = .ok (.iload_n 2, 1) := by decide +kernel
theorem dX11_set_25 : decode cX11_set 25 = .ok (.getstatic 101, 3) := by decide +kernel
theorem dX11_set_28 : decode cX11_set 28 = .ok (.iload_n 1, 1) := by decide +kernel
theorem dX11_set_29 : decode cX11_set 29 = .ok (.iaload, 1) := by decide +kernel
theorem dX11_set_30 : decode cX11_set 30 = .ok (.getstatic 104, 3) := by decide +kernel
theorem dX11_set_33 : decode cX11_set 33 = .ok (.iload_n 1, 1) := by decide +kernel
theorem dX11_set_34 : decode cX11_set 34 = .ok (.iaload, 1) := by decide +kernel
theorem dX11_set_35 : decode cX11_set 35 = .ok (.invokevirtual 97, 3) := by decide +kernel
theorem dX11_set_38 : decode cX11_set 38 = .ok (.ireturn, 1) := by decide +kernel
theorem dX11_undo_0 : decode cX11_undo 0 = .ok (.aload_n 0, 1) := by decide +kernel
theorem dX11_undo_1 : decode cX11_undo 1 = .ok (.getfield 26, 3) := by decide +kernel
theorem dX11_undo_4 : decode cX11_undo 4 = .ok (.getfield 107, 3) := by decide +kernel
theorem dX11_undo_7 : decode cX11_undo 7 = .ok (.ifCond .ne 10, 3) := by decide +kernel
theorem dX11_undo_10 : decode cX11_undo 10 = .ok (.aload_n 0, 1) := by decide +kernel
theorem dX11_undo_11 : decode cX11_undo 11 = .ok (.bipush (-3), 2) := by decide +kernel
theorem dX11_undo_13 : decode cX11_undo 13 = .ok (.invokevirtual 80, 3) := by decide +kernel
theorem dX11_undo_16 : decode cX11_undo 16 = .ok (.ireturn, 1) := by decide +kernel
theorem dX11_undo_17 : decode cX11_undo 17 = .ok (.aload_n 0, 1) := by decide +kernel
theorem dX11_undo_18 : decode cX11_undo 18 = .ok (.getfield 26, 3) := by decide +kernel
theorem dX11_undo_21 : decode cX11_undo 21 = .ok (.aload_n 0, 1) := by decide +kernel
theorem dX11_undo_22 : decode cX11_undo 22 = .ok (.getfield 12, 3) := by decide +kernel
theorem dX11_undo_25 : decode cX11_undo 25 = .ok (.getfield 110, 3) := by decide +kernel
theorem dX11_undo_28 : decode cX11_undo 28 = .ok (.invokevirtual 113, 3) := by decide +kernel
theorem dX11_undo_31 : decode cX11_undo 31 = .ok (.aload_n 0, 1) := by decide +kernel
theorem dX11_undo_32 : decode cX11_undo 32 = .ok (.getfield 60, 3) := by decide +kernel
theorem dX11_undo_35 : decode cX11_undo 35 = .ok (.invokevirtual 91, 3) := by decide +kernel
theorem dX11_undo_38 : decode cX11_undo 38 = .ok (.iconst 1, 1) := by decide +kernel
theorem dX11_undo_39 : decode cX11_undo 39 = .ok (.ireturn, 1) := by decide +kernel
theorem dX11_feed_0 : decode cX11_feed 0 = .ok (.iload_n 1, 1) := by decide +kernel
theorem dX11_feed_1 : decode cX11_feed 1 = .ok (.iconst 1, 1) := by decide +kernel
theorem dX11_feed_2 : decode cX11_feed 2 = .ok (.if_icmp .ge 10, 3) := by decide +kernel
theorem dX11_feed_5 : decode cX11_feed 5 = .ok (.aload_n 0, 1) := by decide +kernel
theorem dX11_feed_6 : decode cX11_feed 6 = .ok (.bipush (-4), 2) := by decide +kernel
theorem dX11_feed_8 : decode cX11_feed 8 = .ok (.invokevirtual 80, 3) := by decide +kernel
theorem dX11_feed_11 : decode cX11_feed 11 = .ok (.ireturn, 1) := by decide +kernel
theorem dX11_feed_12 : decode cX11_feed 12 = .ok (.iload_n 1, 1) := by decide +kernel
theorem dX11_feed_13 : decode cX11_feed 13 = .ok (.bipush 8, 2) := by decide +kernel
theorem dX11_feed_15 : decode cX11_feed 15 = .ok (.if_icmp .gt 17, 3) := by decide +kernel
theorem dX11_feed_18 : decode cX11_feed 18 = .ok (.aload_n 0, 1) := by decide +kernel
theorem dX11_feed_19 : decode cX11_feed 19 = .ok (.getfield 33, 3) := by decide +kernel
theorem dX11_feed_22 : decode cX11_feed 22 = .ok (.getfield 117, 3) := by decide +kernel
theorem dX11_feed_25 : decode cX11_feed 25 = .ok (.iload_n 1, 1) := by decide +kernel
theorem dX11_feed_26 : decode cX11_feed 26 = .ok (.iadd, 1) := by decide +kernel
theorem dX11_feed_27 : decode cX11_feed 27 = .ok (.bipush 40, 2) := by decide +kernel
theorem dX11_feed_29 : decode cX11_feed 29 = .ok (.if_icmp .le 10, 3) := by decide +kernel
theorem dX11_feed_32 : decode cX11_feed 32 = .ok (.aload_n 0, 1) := by decide +kernel
theorem dX11_feed_33 : decode cX11_feed 33 = .ok (.bipush (-6), 2) := by decide +kernel
theorem dX11_feed_35 : decode cX11_feed 35 = .ok (.invokevirtual 80, 3) := by decide +kernel
theorem dX11_feed_38 : decode cX11_feed 38 = .ok (.ireturn, 1) := by decide +kernel
theorem dX11_feed_39 : decode cX11_feed 39 = .ok (.aload_n 0, 1) := by decide +kernel
theorem dX11_feed_40 : decode cX11_feed 40 = .ok (.getfield 33, 3) := by decide +kernel
theorem dX11_feed_43 : decode cX11_feed 43 = .ok (.iload_n 1, 1) := by decide +kernel
theorem dX11_feed_44 : decode cX11_feed 44 = .ok (.lload_n 2, 1) := by decide +kernel
theorem dX11_feed_45 : decode cX11_feed 45 = .ok (.invokevirtual 120, 3) := by decide +kernel
theorem dX11_feed_48 : decode cX11_feed 48 = .ok (.aload_n 0, 1) := by decide +kernel
theorem dX11_feed_49 : decode cX11_feed 49 = .ok (.getfield 33, 3) := by decide +kernel
theorem dX11_feed_52 : decode cX11_feed 52 = .ok (.getfield 117, 3) := by decide +kernel
theorem dX11_feed_55 : decode cX11_feed 55 = .ok (.ireturn, 1) := by decide +kernel
theorem dX11_law_0 : decode cX11_law 0 = .ok (.aload_n 0, 1) := by decide +kernel
theorem dX11_law_1 : decode cX11_law 1 = .ok (.getfield 12, 3) := by decide +kernel
theorem dX11_law_4 : decode cX11_law 4 = .ok (.getfield 124, 3) := by decide +kernel
theorem dX11_law_7 : decode cX11_law 7 = .ok (.bipush 12, 2) := by decide +kernel
theorem dX11_law_9 : decode cX11_law 9 = .ok (.if_icmp .lt 10, 3) := by decide +kernel
theorem dX11_law_12 : decode cX11_law 12 = .ok (.aload_n 0, 1) := by decide +kernel
theorem dX11_law_13 : decode cX11_law 13 = .ok (.bipush (-6), 2) := by decide +kernel
theorem dX11_law_15 : decode cX11_law 15 = .ok (.invokevirtual 80, 3) := by decide +kernel
theorem dX11_law_18 : decode cX11_law 18 = .ok (.ireturn, 1) := by decide +kernel
theorem dX11_law_19 : decode cX11_law 19 = .ok (.aload_n 0, 1) := by decide +kernel
theorem dX11_law_20 : decode cX11_law 20 = .ok (.getfield 33, 3) := by decide +kernel
theorem dX11_law_23 : decode cX11_law 23 = .ok (.invokestatic 127, 3) := by decide +kernel
theorem dX11_law_26 : decode cX11_law 26 = .ok (.istore_n 1, 1) := by decide +kernel
theorem dX11_law_27 : decode cX11_law 27 = .ok (.aload_n 0, 1) := by decide +kernel
theorem dX11_law_28 : decode cX11_law 28 = .ok (.getfield 33, 3) := by decide +kernel
theorem dX11_law_31 : decode cX11_law 31 = .ok (.getfield 133, 3) := by decide +kernel
theorem dX11_law_34 : decode cX11_law 34 = .ok (.ifCond .lt 16, 3) := by decide +kernel
theorem dX11_law_37 : decode cX11_law 37 = .ok (.bipush (-20), 2) := by decide +kernel
theorem dX11_law_39 : decode cX11_law 39 = .ok (.aload_n 0, 1) := by decide +kernel
theorem dX11_law_40 : decode cX11_law 40 = .ok (.getfield 33, 3) := by decide +kernel
theorem dX11_law_43 : decode cX11_law 43 = .ok (.getfield 133, 3) := by decide +kernel
theorem dX11_law_46 : decode cX11_law 46 = .ok (.isub, 1) := by decide +kernel
theorem dX11_law_47 : decode cX11_law 47 = .ok (.goto 11, 3) := by decide +kernel
theorem dX11_law_50 : decode cX11_law 50 = .ok (.aload_n 0, 1) := by decide +kernel
theorem dX11_law_51 : decode cX11_law 51 = .ok (.getfield 12, 3) := by decide +kernel
theorem dX11_law_54 : decode cX11_law 54 = .ok (.iload_n 1, 1) := by decide +kernel
theorem dX11_law_55 : decode cX11_law 55 = .ok (.invokevirtual 136, 3) := by decide +kernel
theorem dX11_law_58 : decode cX11_law 58 = .ok (.ireturn, 1) := by decide +kernel
theorem dX11_holds_0 : decode cX11_holds 0 = .ok (.iload_n 1, 1) := by decide +kernel
theorem dX11_holds_1 : decode cX11_holds 1 = .ok (.ifCond .lt 14, 3) := by decide +kernel
theorem dX11_holds_4 : decode cX11_holds 4 = .ok (.iload_n 1, 1) := by decide +kernel
theorem dX11_holds_5 : decode cX11_holds 5 = .ok (.aload_n 0, 1) := by decide +kernel
theorem dX11_holds_6 : decode cX11_holds 6 = .ok (.getfield 12, 3) := by decide +kernel
theorem dX11_holds_9 : decode cX11_holds 9 = .ok (.getfield 124, 3) := by decide +kernel
theorem dX11_holds_12 : decode cX11_holds 12 = .ok (.if_icmp .lt 9, 3) := by decide +kernel
theorem dX11_holds_15 : decode cX11_holds 15 = .ok (.aload_n 0, 1) := by decide +kernel
theorem dX11_holds_16 : decode cX11_holds 16 = .ok (.iconst (-1), 1) := by decide +kernel
theorem dX11_holds_17 : decode cX11_holds 17 = .ok (.invokevirtual 80, 3) := by decide +kernel
theorem dX11_holds_20 : decode cX11_holds 20 = .ok (.ireturn, 1) := by decide +kernel
theorem dX11_holds_21 : decode cX11_holds 21 = .ok (.aload_n 0, 1) := by decide +kernel
theorem dX11_holds_22 : decode cX11_holds 22 = .ok (.getfield 12, 3) := by decide +kernel
theorem dX11_holds_25 : decode cX11_holds 25 = .ok (.getfield 139, 3) := by decide +kernel
theorem dX11_holds_28 : decode cX11_holds 28 = .ok (.iload_n 1, 1) := by decide +kernel
theorem dX11_holds_29 : decode cX11_holds 29 = .ok (.ishr, 1) := by decide +kernel
theorem dX11_holds_30 : decode cX11_holds 30 = .ok (.iconst 1, 1) := by decide +kernel
theorem dX11_holds_31 : decode cX11_holds 31 = .ok (.iand, 1) := by decide +kernel
theorem dX11_holds_32 : decode cX11_holds 32 = .ok (.iconst 1, 1) := by decide +kernel
theorem dX11_holds_33 : decode cX11_holds 33 = .ok (.if_icmp .ne 7, 3) := by decide +kernel
theorem dX11_holds_36 : decode cX11_holds 36 = .ok (.iconst 1, 1) := by decide +kernel
theorem dX11_holds_37 : decode cX11_holds 37 = .ok (.goto 4, 3) := by decide +kernel
theorem dX11_holds_40 : decode cX11_holds 40 = .ok (.iconst 0, 1) := by decide +kernel
theorem dX11_holds_41 : decode cX11_holds 41 = .ok (.istore_n 3, 1) := by decide +kernel
theorem dX11_holds_42 : decode cX11_holds 42 = .ok (.iload_n 3, 1) := by decide +kernel
theorem dX11_holds_43 : decode cX11_holds 43 = .ok (.iload_n 2, 1) := by decide +kernel
theorem dX11_holds_44 : decode cX11_holds 44 = .ok (.if_icmp .ne 5, 3) := by decide +kernel
theorem dX11_holds_47 : decode cX11_holds 47 = .ok (.iconst 0, 1) := by decide +kernel
theorem dX11_holds_48 : decode cX11_holds 48 = .ok (.ireturn, 1) := by decide +kernel
theorem dX11_holds_49 : decode cX11_holds 49 = .ok (.aload_n 0, 1) := by decide +kernel
theorem dX11_holds_50 : decode cX11_holds 50 = .ok (.getfield 12, 3) := by decide +kernel
theorem dX11_holds_53 : decode cX11_holds 53 = .ok (.dup, 1) := by decide +kernel
theorem dX11_holds_54 : decode cX11_holds 54 = .ok (.getfield 139, 3) := by decide +kernel
theorem dX11_holds_57 : decode cX11_holds 57 = .ok (.iconst 1, 1) := by decide +kernel
theorem dX11_holds_58 : decode cX11_holds 58 = .ok (.iload_n 1, 1) := by decide +kernel
theorem dX11_holds_59 : decode cX11_holds 59 = .ok (.ishl, 1) := by decide +kernel
theorem dX11_holds_60 : decode cX11_holds 60 = .ok (.ixor, 1) := by decide +kernel
theorem dX11_holds_61 : decode cX11_holds 61 = .ok (.putfield 139, 3) := by decide +kernel
theorem dX11_holds_64 : decode cX11_holds 64 = .ok (.iconst 1, 1) := by decide +kernel
theorem dX11_holds_65 : decode cX11_holds 65 = .ok (.ireturn, 1) := by decide +kernel
theorem dX11_rule_0 : decode cX11_rule 0 = .ok (.aload_n 0, 1) := by decide +kernel
theorem dX11_rule_1 : decode cX11_rule 1 = .ok (.getfield 12, 3) := by decide +kernel
theorem dX11_rule_4 : decode cX11_rule 4 = .ok (.iload_n 1, 1) := by decide +kernel
theorem dX11_rule_5 : decode cX11_rule 5 = .ok (.invokevirtual 84, 3) := by decide +kernel
theorem dX11_rule_8 : decode cX11_rule 8 = .ok (.ifCond .ne 9, 3) := by decide +kernel
theorem dX11_rule_11 : decode cX11_rule 11 = .ok (.aload_n 0, 1) := by decide +kernel
theorem dX11_rule_12 : decode cX11_rule 12 = .ok (.iconst (-1), 1) := by decide +kernel
theorem dX11_rule_13 : decode cX11_rule 13 = .ok (.invokevirtual 80, 3) := by decide +kernel
theorem dX11_rule_16 : decode cX11_rule 16 = .ok (.ireturn, 1) := by decide +kernel
theorem dX11_rule_17 : decode cX11_rule 17 = .ok (.iload_n 2, 1) := by decide +kernel
theorem dX11_rule_18 : decode cX11_rule 18 = .ok (.ifCond .ge 10, 3) := by decide +kernel
theorem dX11_rule_21 : decode cX11_rule 21 = .ok (.aload_n 0, 1) := by decide +kernel
theorem dX11_rule_22 : decode cX11_rule 22 = .ok (.bipush (-4), 2) := by decide +kernel
theorem dX11_rule_24 : decode cX11_rule 24 = .ok (.invokevirtual 80, 3) := by decide +kernel
theorem dX11_rule_27 : decode cX11_rule 27 = .ok (.ireturn, 1) := by decide +kernel
theorem dX11_rule_28 : decode cX11_rule 28 = .ok (.iload_n 2, 1) := by decide +kernel
theorem dX11_rule_29 : decode cX11_rule 29 = .ok (.bipush 9, 2) := by decide +kernel
theorem dX11_rule_31 : decode cX11_rule 31 = .ok (.if_icmp .le 10, 3) := by decide +kernel
theorem dX11_rule_34 : decode cX11_rule 34 = .ok (.aload_n 0, 1) := by decide +kernel
theorem dX11_rule_35 : decode cX11_rule 35 = .ok (.bipush (-6), 2) := by decide +kernel
theorem dX11_rule_37 : decode cX11_rule 37 = .ok (.invokevirtual 80, 3) := by decide +kernel
theorem dX11_rule_40 : decode cX11_rule 40 = .ok (.ireturn, 1) := by decide +kernel
theorem dX11_rule_41 : decode cX11_rule 41 = .ok (.aload_n 0, 1) := by decide +kernel
theorem dX11_rule_42 : decode cX11_rule 42 = .ok (.getfield 53, 3) := by decide +kernel
theorem dX11_rule_45 : decode cX11_rule 45 = .ok (.aload_n 0, 1) := by decide +kernel
theorem dX11_rule_46 : decode cX11_rule 46 = .ok (.getfield 33, 3) := by decide +kernel
theorem dX11_rule_49 : decode cX11_rule 49 = .ok (.aload_n 0, 1) := by decide +kernel
theorem dX11_rule_50 : decode cX11_rule 50 = .ok (.getfield 12, 3) := by decide +kernel
theorem dX11_rule_53 : decode cX11_rule 53 = .ok (.iload_n 2, 1) := by decide +kernel
theorem dX11_rule_54 : decode cX11_rule 54 = .ok (.invokevirtual 142, 3) := by decide +kernel
theorem dX11_rule_57 : decode cX11_rule 57 = .ok (.invokevirtual 145, 3) := by decide +kernel
theorem dX11_rule_60 : decode cX11_rule 60 = .ok (.aload_n 0, 1) := by decide +kernel
theorem dX11_rule_61 : decode cX11_rule 61 = .ok (.getfield 33, 3) := by decide +kernel
theorem dX11_rule_64 : decode cX11_rule 64 = .ok (.getfield 133, 3) := by decide +kernel
theorem dX11_rule_67 : decode cX11_rule 67 = .ok (.ifCond .lt 14, 3) := by decide +kernel
theorem dX11_rule_70 : decode cX11_rule 70 = .ok (.bipush (-20), 2) := by decide +kernel
theorem dX11_rule_72 : decode cX11_rule 72 = .ok (.aload_n 0, 1) := by decide +kernel
theorem dX11_rule_73 : decode cX11_rule 73 = .ok (.getfield 33, 3) := by decide +kernel
theorem dX11_rule_76 : decode cX11_rule 76 = .ok (.getfield 133, 3) := by decide +kernel
theorem dX11_rule_79 : decode cX11_rule 79 = .ok (.isub, 1) := by decide +kernel
theorem dX11_rule_80 : decode cX11_rule 80 = .ok (.ireturn, 1) := by decide +kernel
theorem dX11_rule_81 : decode cX11_rule 81 = .ok (.aload_n 0, 1) := by decide +kernel
theorem dX11_rule_82 : decode cX11_rule 82 = .ok (.getfield 53, 3) := by decide +kernel
theorem dX11_rule_85 : decode cX11_rule 85 = .ok (.iload_n 1, 1) := by decide +kernel
theorem dX11_rule_86 : decode cX11_rule 86 = .ok (.invokevirtual 149, 3) := by decide +kernel
theorem dX11_rule_89 : decode cX11_rule 89 = .ok (.iconst 1, 1) := by decide +kernel
theorem dX11_rule_90 : decode cX11_rule 90 = .ok (.ireturn, 1) := by decide +kernel
theorem dX11_unrule_0 : decode cX11_unrule 0 = .ok (.aload_n 0, 1) := by decide +kernel
theorem dX11_unrule_1 : decode cX11_unrule 1 = .ok (.getfield 12, 3) := by decide +kernel
theorem dX11_unrule_4 : decode cX11_unrule 4 = .ok (.iload_n 1, 1) := by decide +kernel
theorem dX11_unrule_5 : decode cX11_unrule 5 = .ok (.invokevirtual 84, 3) := by decide +kernel
theorem dX11_unrule_8 : decode cX11_unrule 8 = .ok (.ifCond .ne 9, 3) := by decide +kernel
theorem dX11_unrule_11 : decode cX11_unrule 11 = .ok (.aload_n 0, 1) := by decide +kernel
theorem dX11_unrule_12 : decode cX11_unrule 12 = .ok (.iconst (-1), 1) := by decide +kernel
theorem dX11_unrule_13 : decode cX11_unrule 13 = .ok (.invokevirtual 80, 3) := by decide +kernel
theorem dX11_unrule_16 : decode cX11_unrule 16 = .ok (.ireturn, 1) := by decide +kernel
theorem dX11_unrule_17 : decode cX11_unrule 17 = .ok (.aload_n 0, 1) := by decide +kernel
theorem dX11_unrule_18 : decode cX11_unrule 18 = .ok (.getfield 12, 3) := by decide +kernel
theorem dX11_unrule_21 : decode cX11_unrule 21 = .ok (.getfield 153, 3) := by decide +kernel
theorem dX11_unrule_24 : decode cX11_unrule 24 = .ok (.iload_n 1, 1) := by decide +kernel
theorem dX11_unrule_25 : decode cX11_unrule 25 = .ok (.aaload, 1) := by decide +kernel
theorem dX11_unrule_26 : decode cX11_unrule 26 = .ok (.getfield 156, 3) := by decide +kernel
theorem dX11_unrule_29 : decode cX11_unrule 29 = .ok (.ifCond .ne 5, 3) := by decide +kernel
theorem dX11_unrule_32 : decode cX11_unrule 32 = .ok (.iconst 0, 1) := by decide +kernel
theorem dX11_unrule_33 : decode cX11_unrule 33 = .ok (.ireturn, 1) := by decide +kernel
theorem dX11_unrule_34 : decode cX11_unrule 34 = .ok (.aload_n 0, 1) := by decide +kernel
theorem dX11_unrule_35 : decode cX11_unrule 35 = .ok (.getfield 12, 3) := by decide +kernel
theorem dX11_unrule_38 : decode cX11_unrule 38 = .ok (.getfield 153, 3) := by decide +kernel
theorem dX11_unrule_41 : decode cX11_unrule 41 = .ok (.iload_n 1, 1) := by decide +kernel
theorem dX11_unrule_42 : decode cX11_unrule 42 = .ok (.aaload, 1) := by decide +kernel
theorem dX11_unrule_43 : decode cX11_unrule 43 = .ok (.iconst 0, 1) := by decide +kernel
theorem dX11_unrule_44 : decode cX11_unrule 44 = .ok (.putfield 156, 3) := by decide +kernel
theorem dX11_unrule_47 : decode cX11_unrule 47 = .ok (.iconst 1, 1) := by decide +kernel
theorem dX11_unrule_48 : decode cX11_unrule 48 = .ok (.ireturn, 1) := by decide +kernel
theorem dX11_inSet_0 : decode cX11_inSet 0 = .ok (.iload_n 1, 1) := by decide +kernel
theorem dX11_inSet_1 : decode cX11_inSet 1 = .ok (.ifCond .lt 9, 3) := by decide +kernel
theorem dX11_inSet_4 : decode cX11_inSet 4 = .ok (.iload_n 1, 1) := by decide +kernel
theorem dX11_inSet_5 : decode cX11_inSet 5 = .ok (.bipush 16, 2) := by decide +kernel
theorem dX11_inSet_7 : decode cX11_inSet 7 = .ok (.if_icmp .lt 9, 3) := by decide +kernel
theorem dX11_inSet_10 : decode cX11_inSet 10 = .ok (.aload_n 0, 1) := by decide +kernel
theorem dX11_inSet_11 : decode cX11_inSet 11 = .ok (.iconst (-1), 1) := by decide +kernel
theorem dX11_inSet_12 : decode cX11_inSet 12 = .ok (.invokevirtual 80, 3) := by decide +kernel
theorem dX11_inSet_15 : decode cX11_inSet 15 = .ok (.ireturn, 1) := by decide +kernel
theorem dX11_inSet_16 : decode cX11_inSet 16 = .ok (.aload_n 0, 1) := by decide +kernel
theorem dX11_inSet_17 : decode cX11_inSet 17 = .ok (.invokevirtual 159, 3) := by decide +kernel
theorem dX11_inSet_20 : decode cX11_inSet 20 = .ok (.iload_n 1, 1) := by decide +kernel
theorem dX11_inSet_21 : decode cX11_inSet 21 = .ok (.ishr, 1) := by decide +kernel
theorem dX11_inSet_22 : decode cX11_inSet 22 = .ok (.iconst 1, 1) := by decide +kernel
theorem dX11_inSet_23 : decode cX11_inSet 23 = .ok (.iand, 1) := by decide +kernel
theorem dX11_inSet_24 : decode cX11_inSet 24 = .ok (.ireturn, 1) := by decide +kernel
theorem dX11_later_0 : decode cX11_later 0 = .ok (.aload_n 0, 1) := by decide +kernel
theorem dX11_later_1 : decode cX11_later 1 = .ok (.getfield 12, 3) := by decide +kernel
theorem dX11_later_4 : decode cX11_later 4 = .ok (.iload_n 1, 1) := by decide +kernel
theorem dX11_later_5 : decode cX11_later 5 = .ok (.invokevirtual 163, 3) := by decide +kernel
theorem dX11_later_8 : decode cX11_later 8 = .ok (.ifCond .eq 14, 3) := by decide +kernel
theorem dX11_later_11 : decode cX11_later 11 = .ok (.aload_n 0, 1) := by decide +kernel
theorem dX11_later_12 : decode cX11_later 12 = .ok (.getfield 12, 3) := by decide +kernel
theorem dX11_later_15 : decode cX11_later 15 = .ok (.iload_n 2, 1) := by decide +kernel
theorem dX11_later_16 : decode cX11_later 16 = .ok (.invokevirtual 166, 3) := by decide +kernel
theorem dX11_later_19 : decode cX11_later 19 = .ok (.ifCond .ne 9, 3) := by decide +kernel
theorem dX11_later_22 : decode cX11_later 22 = .ok (.aload_n 0, 1) := by decide +kernel
theorem dX11_later_23 : decode cX11_later 23 = .ok (.iconst (-1), 1) := by decide +kernel
theorem dX11_later_24 : decode cX11_later 24 = .ok (.invokevirtual 80, 3) := by decide +kernel
theorem dX11_later_27 : decode cX11_later 27 = .ok (.ireturn, 1) := by decide +kernel
theorem dX11_later_28 : decode cX11_later 28 = .ok (.aload_n 0, 1) := by decide +kernel
theorem dX11_later_29 : decode cX11_later 29 = .ok (.getfield 60, 3) := by decide +kernel
theorem dX11_later_32 : decode cX11_later 32 = .ok (.iload_n 1, 1) := by decide +kernel
theorem dX11_later_33 : decode cX11_later 33 = .ok (.iload_n 2, 1) := by decide +kernel
theorem dX11_later_34 : decode cX11_later 34 = .ok (.invokevirtual 169, 3) := by decide +kernel
theorem dX11_later_37 : decode cX11_later 37 = .ok (.aload_n 0, 1) := by decide +kernel
theorem dX11_later_38 : decode cX11_later 38 = .ok (.getfield 12, 3) := by decide +kernel
theorem dX11_later_41 : decode cX11_later 41 = .ok (.iload_n 1, 1) := by decide +kernel
