theorem dX12_feed_60 : decode cX12_feed 60 = .ok (.lload_n 2, 1) := by decide +kernel
theorem dX12_feed_61 : decode cX12_feed 61 = .ok (.bipush 8, 2) := by decide +kernel
theorem dX12_feed_63 : decode cX12_feed 63 = .ok (.iload 5, 2) := by decide +kernel
theorem dX12_feed_65 : decode cX12_feed 65 = .ok (.imul, 1) := by decide +kernel
theorem dX12_feed_66 : decode cX12_feed 66 = .ok (.lshr, 1) := by decide +kernel
theorem dX12_feed_67 : decode cX12_feed 67 = .ok (.ldc2_w 153, 3) := by decide +kernel
theorem dX12_feed_70 : decode cX12_feed 70 = .ok (.land, 1) := by decide +kernel
theorem dX12_feed_71 : decode cX12_feed 71 = .ok (.l2i, 1) := by decide +kernel
theorem dX12_feed_72 : decode cX12_feed 72 = .ok (.iastore, 1) := by decide +kernel
theorem dX12_feed_73 : decode cX12_feed 73 = .ok (.aload_n 0, 1) := by decide +kernel
theorem dX12_feed_74 : decode cX12_feed 74 = .ok (.dup, 1) := by decide +kernel
theorem dX12_feed_75 : decode cX12_feed 75 = .ok (.getfield 160, 3) := by decide +kernel
theorem dX12_feed_78 : decode cX12_feed 78 = .ok (.iconst 1, 1) := by decide +kernel
theorem dX12_feed_79 : decode cX12_feed 79 = .ok (.iadd, 1) := by decide +kernel
theorem dX12_feed_80 : decode cX12_feed 80 = .ok (.putfield 160, 3) := by decide +kernel
theorem dX12_feed_83 : decode cX12_feed 83 = .ok (.iinc 5 1, 3) := by decide +kernel
theorem dX12_feed_86 : decode cX12_feed 86 = .ok (.goto (-40), 3) := by decide +kernel
theorem dX12_feed_89 : decode cX12_feed 89 = .ok (.aload_n 0, 1) := by decide +kernel
theorem dX12_feed_90 : decode cX12_feed 90 = .ok (.getfield 160, 3) := by decide +kernel
theorem dX12_feed_93 : decode cX12_feed 93 = .ok (.ireturn, 1) := by decide +kernel
theorem dX12_sign_0 : decode cX12_sign 0 = .ok (.aload_n 0, 1) := by decide +kernel
theorem dX12_sign_1 : decode cX12_sign 1 = .ok (.getfield 163, 3) := by decide +kernel
theorem dX12_sign_4 : decode cX12_sign 4 = .ok (.aload_n 0, 1) := by decide +kernel
theorem dX12_sign_5 : decode cX12_sign 5 = .ok (.getfield 160, 3) := by decide +kernel
theorem dX12_sign_8 : decode cX12_sign 8 = .ok (.if_icmp .ge 15, 3) := by decide +kernel
theorem dX12_sign_11 : decode cX12_sign 11 = .ok (.aload_n 0, 1) := by decide +kernel
theorem dX12_sign_12 : decode cX12_sign 12 = .ok (.getfield 22, 3) := by decide +kernel
theorem dX12_sign_15 : decode cX12_sign 15 = .ok (.aload_n 0, 1) := by decide +kernel
theorem dX12_sign_16 : decode cX12_sign 16 = .ok (.getfield 163, 3) := by decide +kernel
theorem dX12_sign_19 : decode cX12_sign 19 = .ok (.iaload, 1) := by decide +kernel
theorem dX12_sign_20 : decode cX12_sign 20 = .ok (.goto 4, 3) := by decide +kernel
theorem dX12_sign_23 : decode cX12_sign 23 = .ok (.iconst (-1), 1) := by decide +kernel
theorem dX12_sign_24 : decode cX12_sign 24 = .ok (.ireturn, 1) := by decide +kernel
theorem dX12_isDigit_0 : decode cX12_isDigit 0 = .ok (.iload_n 0, 1) := by decide +kernel
theorem dX12_isDigit_1 : decode cX12_isDigit 1 = .ok (.bipush 48, 2) := by decide +kernel
theorem dX12_isDigit_3 : decode cX12_isDigit 3 = .ok (.if_icmp .lt 13, 3) := by decide +kernel
theorem dX12_isDigit_6 : decode cX12_isDigit 6 = .ok (.iload_n 0, 1) := by decide +kernel
theorem dX12_isDigit_7 : decode cX12_isDigit 7 = .ok (.bipush 57, 2) := by decide +kernel
theorem dX12_isDigit_9 : decode cX12_isDigit 9 = .ok (.if_icmp .gt 7, 3) := by decide +kernel
theorem dX12_isDigit_12 : decode cX12_isDigit 12 = .ok (.iconst 1, 1) := by decide +kernel
theorem dX12_isDigit_13 : decode cX12_isDigit 13 = .ok (.goto 4, 3) := by decide +kernel
theorem dX12_isDigit_16 : decode cX12_isDigit 16 = .ok (.iconst 0, 1) := by decide +kernel
theorem dX12_isDigit_17 : decode cX12_isDigit 17 = .ok (.ireturn, 1) := by decide +kernel
theorem dX12_digit_0 : decode cX12_digit 0 = .ok (.aload_n 0, 1) := by decide +kernel
theorem dX12_digit_1 : decode cX12_digit 1 = .ok (.invokevirtual 166, 3) := by decide +kernel
theorem dX12_digit_4 : decode cX12_digit 4 = .ok (.invokestatic 170, 3) := by decide +kernel
theorem dX12_digit_7 : decode cX12_digit 7 = .ok (.ifCond .ne 5, 3) := by decide +kernel
theorem dX12_digit_10 : decode cX12_digit 10 = .ok (.iconst 0, 1) := by decide +kernel
theorem dX12_digit_11 : decode cX12_digit 11 = .ok (.ireturn, 1) := by decide +kernel
theorem dX12_digit_12 : decode cX12_digit 12 = .ok (.aload_n 0, 1) := by decide +kernel
theorem dX12_digit_13 : decode cX12_digit 13 = .ok (.dup, 1) := by decide +kernel
theorem dX12_digit_14 : decode cX12_digit 14 = .ok (.getfield 163, 3) := by decide +kernel
theorem dX12_digit_17 : decode cX12_digit 17 = .ok (.iconst 1, 1) := by decide +kernel
theorem dX12_digit_18 : decode cX12_digit 18 = .ok (.iadd, 1) := by decide +kernel
theorem dX12_digit_19 : decode cX12_digit 19 = .ok (.putfield 163, 3) := by decide +kernel
theorem dX12_digit_22 : decode cX12_digit 22 = .ok (.iconst 1, 1) := by decide +kernel
theorem dX12_digit_23 : decode cX12_digit 23 = .ok (.ireturn, 1) := by decide +kernel
theorem dX12_part_0 : decode cX12_part 0 = .ok (.aload_n 0, 1) := by decide +kernel
theorem dX12_part_1 : decode cX12_part 1 = .ok (.invokevirtual 166, 3) := by decide +kernel
theorem dX12_part_4 : decode cX12_part 4 = .ok (.istore_n 1, 1) := by decide +kernel
theorem dX12_part_5 : decode cX12_part 5 = .ok (.iload_n 1, 1) := by decide +kernel
theorem dX12_part_6 : decode cX12_part 6 = .ok (.bipush 98, 2) := by decide +kernel
theorem dX12_part_8 : decode cX12_part 8 = .ok (.if_icmp .eq 11, 3) := by decide +kernel
theorem dX12_part_11 : decode cX12_part 11 = .ok (.iload_n 1, 1) := by decide +kernel
theorem dX12_part_12 : decode cX12_part 12 = .ok (.bipush 110, 2) := by decide +kernel
theorem dX12_part_14 : decode cX12_part 14 = .ok (.if_icmp .eq 5, 3) := by decide +kernel
theorem dX12_part_17 : decode cX12_part 17 = .ok (.iconst 0, 1) := by decide +kernel
theorem dX12_part_18 : decode cX12_part 18 = .ok (.ireturn, 1) := by decide +kernel
theorem dX12_part_19 : decode cX12_part 19 = .ok (.aload_n 0, 1) := by decide +kernel
theorem dX12_part_20 : decode cX12_part 20 = .ok (.dup, 1) := by decide +kernel
theorem dX12_part_21 : decode cX12_part 21 = .ok (.getfield 163, 3) := by decide +kernel
theorem dX12_part_24 : decode cX12_part 24 = .ok (.iconst 1, 1) := by decide +kernel
theorem dX12_part_25 : decode cX12_part 25 = .ok (.iadd, 1) := by decide +kernel
theorem dX12_part_26 : decode cX12_part 26 = .ok (.putfield 163, 3) := by decide +kernel
theorem dX12_part_29 : decode cX12_part 29 = .ok (.iload_n 1, 1) := by decide +kernel
theorem dX12_part_30 : decode cX12_part 30 = .ok (.bipush 98, 2) := by decide +kernel
theorem dX12_part_32 : decode cX12_part 32 = .ok (.if_icmp .ne 8, 3) := by decide +kernel
theorem dX12_part_35 : decode cX12_part 35 = .ok (.aload_n 0, 1) := by decide +kernel
theorem dX12_part_36 : decode cX12_part 36 = .ok (.invokevirtual 173, 3) := by decide +kernel
theorem dX12_part_39 : decode cX12_part 39 = .ok (.ireturn, 1) := by decide +kernel
theorem dX12_part_40 : decode cX12_part 40 = .ok (.aload_n 0, 1) := by decide +kernel
theorem dX12_part_41 : decode cX12_part 41 = .ok (.invokevirtual 166, 3) := by decide +kernel
theorem dX12_part_44 : decode cX12_part 44 = .ok (.bipush 60, 2) := by decide +kernel
theorem dX12_part_46 : decode cX12_part 46 = .ok (.if_icmp .eq 23, 3) := by decide +kernel
theorem dX12_part_49 : decode cX12_part 49 = .ok (.aload_n 0, 1) := by decide +kernel
theorem dX12_part_50 : decode cX12_part 50 = .ok (.invokevirtual 166, 3) := by decide +kernel
theorem dX12_part_53 : decode cX12_part 53 = .ok (.bipush 61, 2) := by decide +kernel
theorem dX12_part_55 : decode cX12_part 55 = .ok (.if_icmp .eq 14, 3) := by decide +kernel
theorem dX12_part_58 : decode cX12_part 58 = .ok (.aload_n 0, 1) := by decide +kernel
theorem dX12_part_59 : decode cX12_part 59 = .ok (.invokevirtual 166, 3) := by decide +kernel
theorem dX12_part_62 : decode cX12_part 62 = .ok (.bipush 62, 2) := by decide +kernel
theorem dX12_part_64 : decode cX12_part 64 = .ok (.if_icmp .eq 5, 3) := by decide +kernel
theorem dX12_part_67 : decode cX12_part 67 = .ok (.iconst 0, 1) := by decide +kernel
theorem dX12_part_68 : decode cX12_part 68 = .ok (.ireturn, 1) := by decide +kernel
theorem dX12_part_69 : decode cX12_part 69 = .ok (.aload_n 0, 1) := by decide +kernel
theorem dX12_part_70 : decode cX12_part 70 = .ok (.dup, 1) := by decide +kernel
theorem dX12_part_71 : decode cX12_part 71 = .ok (.getfield 163, 3) := by decide +kernel
theorem dX12_part_74 : decode cX12_part 74 = .ok (.iconst 1, 1) := by decide +kernel
theorem dX12_part_75 : decode cX12_part 75 = .ok (.iadd, 1) := by decide +kernel
theorem dX12_part_76 : decode cX12_part 76 = .ok (.putfield 163, 3) := by decide +kernel
theorem dX12_part_79 : decode cX12_part 79 = .ok (.aload_n 0, 1) := by decide +kernel
theorem dX12_part_80 : decode cX12_part 80 = .ok (.invokevirtual 173, 3) := by decide +kernel
theorem dX12_part_83 : decode cX12_part 83 = .ok (.ireturn, 1) := by decide +kernel
theorem dX12_closes_0 : decode cX12_closes 0 = .ok (.aload_n 0, 1) := by decide +kernel
theorem dX12_closes_1 : decode cX12_closes 1 = .ok (.getfield 177, 3) := by decide +kernel
theorem dX12_closes_4 : decode cX12_closes 4 = .ok (.ifCond .le 31, 3) := by decide +kernel
theorem dX12_closes_7 : decode cX12_closes 7 = .ok (.aload_n 0, 1) := by decide +kernel
theorem dX12_closes_8 : decode cX12_closes 8 = .ok (.getfield 37, 3) := by decide +kernel
theorem dX12_closes_11 : decode cX12_closes 11 = .ok (.aload_n 0, 1) := by decide +kernel
theorem dX12_closes_12 : decode cX12_closes 12 = .ok (.getfield 177, 3) := by decide +kernel
theorem dX12_closes_15 : decode cX12_closes 15 = .ok (.iconst 1, 1) := by decide +kernel
theorem dX12_closes_16 : decode cX12_closes 16 = .ok (.isub, 1) := by decide +kernel
theorem dX12_closes_17 : decode cX12_closes 17 = .ok (.iaload, 1) := by decide +kernel
theorem dX12_closes_18 : decode cX12_closes 18 = .ok (.iconst 1, 1) := by decide +kernel
theorem dX12_closes_19 : decode cX12_closes 19 = .ok (.if_icmp .ne 16, 3) := by decide +kernel
theorem dX12_closes_22 : decode cX12_closes 22 = .ok (.aload_n 0, 1) := by decide +kernel
theorem dX12_closes_23 : decode cX12_closes 23 = .ok (.dup, 1) := by decide +kernel
theorem dX12_closes_24 : decode cX12_closes 24 = .ok (.getfield 177, 3) := by decide +kernel
theorem dX12_closes_27 : decode cX12_closes 27 = .ok (.iconst 1, 1) := by decide +kernel
theorem dX12_closes_28 : decode cX12_closes 28 = .ok (.isub, 1) := by decide +kernel
theorem dX12_closes_29 : decode cX12_closes 29 = .ok (.putfield 177, 3) := by decide +kernel
theorem dX12_closes_32 : decode cX12_closes 32 = .ok (.goto (-32), 3) := by decide +kernel
theorem dX12_closes_35 : decode cX12_closes 35 = .ok (.return_, 1) := by decide +kernel
theorem dX12_isLaw_0 : decode cX12_isLaw 0 = .ok (.aload_n 0, 1) := by decide +kernel
theorem dX12_isLaw_1 : decode cX12_isLaw 1 = .ok (.iconst 0, 1) := by decide +kernel
theorem dX12_isLaw_2 : decode cX12_isLaw 2 = .ok (.putfield 163, 3) := by decide +kernel
theorem dX12_isLaw_5 : decode cX12_isLaw 5 = .ok (.aload_n 0, 1) := by decide +kernel
theorem dX12_isLaw_6 : decode cX12_isLaw 6 = .ok (.iconst 0, 1) := by decide +kernel
theorem dX12_isLaw_7 : decode cX12_isLaw 7 = .ok (.putfield 177, 3) := by decide +kernel
theorem dX12_isLaw_10 : decode cX12_isLaw 10 = .ok (.aload_n 0, 1) := by decide +kernel
theorem dX12_isLaw_11 : decode cX12_isLaw 11 = .ok (.invokevirtual 166, 3) := by decide +kernel
theorem dX12_isLaw_14 : decode cX12_isLaw 14 = .ok (.bipush 33, 2) := by decide +kernel
theorem dX12_isLaw_16 : decode cX12_isLaw 16 = .ok (.if_icmp .eq 12, 3) := by decide +kernel
theorem dX12_isLaw_19 : decode cX12_isLaw 19 = .ok (.aload_n 0, 1) := by decide +kernel
theorem dX12_isLaw_20 : decode cX12_isLaw 20 = .ok (.invokevirtual 166, 3) := by decide +kernel
theorem dX12_isLaw_23 : decode cX12_isLaw 23 = .ok (.bipush 40, 2) := by decide +kernel
theorem dX12_isLaw_25 : decode cX12_isLaw 25 = .ok (.if_icmp .ne 59, 3) := by decide +kernel
theorem dX12_isLaw_28 : decode cX12_isLaw 28 = .ok (.aload_n 0, 1) := by decide +kernel
theorem dX12_isLaw_29 : decode cX12_isLaw 29 = .ok (.getfield 177, 3) := by decide +kernel
theorem dX12_isLaw_32 : decode cX12_isLaw 32 = .ok (.iconst 4, 1) := by decide +kernel
theorem dX12_isLaw_33 : decode cX12_isLaw 33 = .ok (.if_icmp .ne 5, 3) := by decide +kernel
theorem dX12_isLaw_36 : decode cX12_isLaw 36 = .ok (.iconst 0, 1) := by decide +kernel
theorem dX12_isLaw_37 : decode cX12_isLaw 37 = .ok (.ireturn, 1) := by decide +kernel
theorem dX12_isLaw_38 : decode cX12_isLaw 38 = .ok (.aload_n 0, 1) := by decide +kernel
theorem dX12_isLaw_39 : decode cX12_isLaw 39 = .ok (.getfield 37, 3) := by decide +kernel
theorem dX12_isLaw_42 : decode cX12_isLaw 42 = .ok (.aload_n 0, 1) := by decide +kernel
theorem dX12_isLaw_43 : decode cX12_isLaw 43 = .ok (.getfield 177, 3) := by decide +kernel
theorem dX12_isLaw_46 : decode cX12_isLaw 46 = .ok (.aload_n 0, 1) := by decide +kernel
theorem dX12_isLaw_47 : decode cX12_isLaw 47 = .ok (.invokevirtual 166, 3) := by decide +kernel
theorem dX12_isLaw_50 : decode cX12_isLaw 50 = .ok (.bipush 33, 2) := by decide +kernel
theorem dX12_isLaw_52 : decode cX12_isLaw 52 = .ok (.if_icmp .ne 7, 3) := by decide +kernel
theorem dX12_isLaw_55 : decode cX12_isLaw 55 = .ok (.iconst 1, 1) := by decide +kernel
theorem dX12_isLaw_56 : decode cX12_isLaw 56 = .ok (.goto 4, 3) := by decide +kernel
theorem dX12_isLaw_59 : decode cX12_isLaw 59 = .ok (.iconst 2, 1) := by decide +kernel
theorem dX12_isLaw_60 : decode cX12_isLaw 60 = .ok (.iastore, 1) := by decide +kernel
theorem dX12_isLaw_61 : decode cX12_isLaw 61 = .ok (.aload_n 0, 1) := by decide +kernel
theorem dX12_isLaw_62 : decode cX12_isLaw 62 = .ok (.dup, 1) := by decide +kernel
theorem dX12_isLaw_63 : decode cX12_isLaw 63 = .ok (.getfield 177, 3) := by decide +kernel
theorem dX12_isLaw_66 : decode cX12_isLaw 66 = .ok (.iconst 1, 1) := by decide +kernel
theorem dX12_isLaw_67 : decode cX12_isLaw 67 = .ok (.iadd, 1) := by decide +kernel
theorem dX12_isLaw_68 : decode cX12_isLaw 68 = .ok (.putfield 177, 3) := by decide +kernel
theorem dX12_isLaw_71 : decode cX12_isLaw 71 = .ok (.aload_n 0, 1) := by decide +kernel
theorem dX12_isLaw_72 : decode cX12_isLaw 72 = .ok (.dup, 1) := by decide +kernel
theorem dX12_isLaw_73 : decode cX12_isLaw 73 = .ok (.getfield 163, 3) := by decide +kernel
theorem dX12_isLaw_76 : decode cX12_isLaw 76 = .ok (.iconst 1, 1) := by decide +kernel
theorem dX12_isLaw_77 : decode cX12_isLaw 77 = .ok (.iadd, 1) := by decide +kernel
theorem dX12_isLaw_78 : decode cX12_isLaw 78 = .ok (.putfield 163, 3) := by decide +kernel
theorem dX12_isLaw_81 : decode cX12_isLaw 81 = .ok (.goto (-71), 3) := by decide +kernel
theorem dX12_isLaw_84 : decode cX12_isLaw 84 = .ok (.aload_n 0, 1) := by decide +kernel
theorem dX12_isLaw_85 : decode cX12_isLaw 85 = .ok (.invokevirtual 180, 3) := by decide +kernel
theorem dX12_isLaw_88 : decode cX12_isLaw 88 = .ok (.ifCond .ne 5, 3) := by decide +kernel
theorem dX12_isLaw_91 : decode cX12_isLaw 91 = .ok (.iconst 0, 1) := by decide +kernel
theorem dX12_isLaw_92 : decode cX12_isLaw 92 = .ok (.ireturn, 1) := by decide +kernel
theorem dX12_isLaw_93 : decode cX12_isLaw 93 = .ok (.aload_n 0, 1) := by decide +kernel
theorem dX12_isLaw_94 : decode cX12_isLaw 94 = .ok (.invokevirtual 183, 3) := by decide +kernel
theorem dX12_isLaw_97 : decode cX12_isLaw 97 = .ok (.aload_n 0, 1) := by decide +kernel
theorem dX12_isLaw_98 : decode cX12_isLaw 98 = .ok (.invokevirtual 166, 3) := by decide +kernel
theorem dX12_isLaw_101 : decode cX12_isLaw 101 = .ok (.bipush 41, 2) := by decide +kernel
theorem dX12_isLaw_103 : decode cX12_isLaw 103 = .ok (.if_icmp .ne 37, 3) := by decide +kernel
theorem dX12_isLaw_106 : decode cX12_isLaw 106 = .ok (.aload_n 0, 1) := by decide +kernel
theorem dX12_isLaw_107 : decode cX12_isLaw 107 = .ok (.getfield 177, 3) := by decide +kernel
theorem dX12_isLaw_110 : decode cX12_isLaw 110 = .ok (.ifCond .le 30, 3) := by decide +kernel
theorem dX12_isLaw_113 : decode cX12_isLaw 113 = .ok (.aload_n 0, 1) := by decide +kernel
theorem dX12_isLaw_114 : decode cX12_isLaw 114 = .ok (.dup, 1) := by decide +kernel
theorem dX12_isLaw_115 : decode cX12_isLaw 115 = .ok (.getfield 163, 3) := by decide +kernel
theorem dX12_isLaw_118 : decode cX12_isLaw 118 = .ok (.iconst 1, 1) := by decide +kernel
theorem dX12_isLaw_119 : decode cX12_isLaw 119 = .ok (.iadd, 1) := by decide +kernel
theorem dX12_isLaw_120 : decode cX12_isLaw 120 = .ok (.putfield 163, 3) := by decide +kernel
theorem dX12_isLaw_123 : decode cX12_isLaw 123 = .ok (.aload_n 0, 1) := by decide +kernel
theorem dX12_isLaw_124 : decode cX12_isLaw 124 = .ok (.dup, 1) := by decide +kernel
theorem dX12_isLaw_125 : decode cX12_isLaw 125 = .ok (.getfield 177, 3) := by decide +kernel
theorem dX12_isLaw_128 : decode cX12_isLaw 128 = .ok (.iconst 1, 1) := by decide +kernel
theorem dX12_isLaw_129 : decode cX12_isLaw 129 = .ok (.isub, 1) := by decide +kernel
theorem dX12_isLaw_130 : decode cX12_isLaw 130 = .ok (.putfield 177, 3) := by decide +kernel
theorem dX12_isLaw_133 : decode cX12_isLaw 133 = .ok (.aload_n 0, 1) := by decide +kernel
theorem dX12_isLaw_134 : decode cX12_isLaw 134 = .ok (.invokevirtual 183, 3) := by decide +kernel
theorem dX12_isLaw_137 : decode cX12_isLaw 137 = .ok (.goto (-40), 3) := by decide +kernel
theorem dX12_isLaw_140 : decode cX12_isLaw 140 = .ok (.aload_n 0, 1) := by decide +kernel
theorem dX12_isLaw_141 : decode cX12_isLaw 141 = .ok (.invokevirtual 166, 3) := by decide +kernel
theorem dX12_isLaw_144 : decode cX12_isLaw 144 = .ok (.iconst (-1), 1) := by decide +kernel
theorem dX12_isLaw_145 : decode cX12_isLaw 145 = .ok (.if_icmp .ne 12, 3) := by decide +kernel
theorem dX12_isLaw_148 : decode cX12_isLaw 148 = .ok (.aload_n 0, 1) := by decide +kernel
theorem dX12_isLaw_149 : decode cX12_isLaw 149 = .ok (.getfield 177, 3) := by decide +kernel
theorem dX12_isLaw_152 : decode cX12_isLaw 152 = .ok (.ifCond .ne 5, 3) := by decide +kernel
theorem dX12_isLaw_155 : decode cX12_isLaw 155 = .ok (.iconst 1, 1) := by decide +kernel
theorem dX12_isLaw_156 : decode cX12_isLaw 156 = .ok (.ireturn, 1) := by decide +kernel
theorem dX12_isLaw_157 : decode cX12_isLaw 157 = .ok (.aload_n 0, 1) := by decide +kernel
theorem dX12_isLaw_158 : decode cX12_isLaw 158 = .ok (.invokevirtual 166, 3) := by decide +kernel
theorem dX12_isLaw_161 : decode cX12_isLaw 161 = .ok (.bipush 124, 2) := by decide +kernel
theorem dX12_isLaw_163 : decode cX12_isLaw 163 = .ok (.if_icmp .eq 14, 3) := by decide +kernel
theorem dX12_isLaw_166 : decode cX12_isLaw 166 = .ok (.aload_n 0, 1) := by decide +kernel
theorem dX12_isLaw_167 : decode cX12_isLaw 167 = .ok (.invokevirtual 166, 3) := by decide +kernel
theorem dX12_isLaw_170 : decode cX12_isLaw 170 = .ok (.bipush 38, 2) := by decide +kernel
theorem dX12_isLaw_172 : decode cX12_isLaw 172 = .ok (.if_icmp .eq 5, 3) := by decide +kernel
theorem dX12_isLaw_175 : decode cX12_isLaw 175 = .ok (.iconst 0, 1) := by decide +kernel
theorem dX12_isLaw_176 : decode cX12_isLaw 176 = .ok (.ireturn, 1) := by decide +kernel
theorem dX12_isLaw_177 : decode cX12_isLaw 177 = .ok (.aload_n 0, 1) := by decide +kernel
theorem dX12_isLaw_178 : decode cX12_isLaw 178 = .ok (.dup, 1) := by decide +kernel
theorem dX12_isLaw_179 : decode cX12_isLaw 179 = .ok (.getfield 163, 3) := by decide +kernel
theorem dX12_isLaw_182 : decode cX12_isLaw 182 = .ok (.iconst 1, 1) := by decide +kernel
theorem dX12_isLaw_183 : decode cX12_isLaw 183 = .ok (.iadd, 1) := by decide +kernel
theorem dX12_isLaw_184 : decode cX12_isLaw 184 = .ok (.putfield 163, 3) := by decide +kernel
theorem dX12_isLaw_187 : decode cX12_isLaw 187 = .ok (.goto (-177), 3) := by decide +kernel
theorem dX12_law_0 : decode cX12_law 0 = .ok (.aload_n 0, 1) := by decide +kernel
theorem dX12_law_1 : decode cX12_law 1 = .ok (.getfield 186, 3) := by decide +kernel
theorem dX12_law_4 : decode cX12_law 4 = .ok (.bipush 12, 2) := by decide +kernel
theorem dX12_law_6 : decode cX12_law 6 = .ok (.if_icmp .ne 10, 3) := by decide +kernel
theorem dX12_law_9 : decode cX12_law 9 = .ok (.aload_n 0, 1) := by decide +kernel
theorem dX12_law_10 : decode cX12_law 10 = .ok (.bipush (-6), 2) := by decide +kernel
theorem dX12_law_12 : decode cX12_law 12 = .ok (.invokevirtual 113, 3) := by decide +kernel
theorem dX12_law_15 : decode cX12_law 15 = .ok (.ireturn, 1) := by decide +kernel
theorem dX12_law_16 : decode cX12_law 16 = .ok (.aload_n 0, 1) := by decide +kernel
theorem dX12_law_17 : decode cX12_law 17 = .ok (.invokevirtual 189, 3) := by decide +kernel
theorem dX12_law_20 : decode cX12_law 20 = .ok (.istore_n 1, 1) := by decide +kernel
theorem dX12_law_21 : decode cX12_law 21 = .ok (.aload_n 0, 1) := by decide +kernel
theorem dX12_law_22 : decode cX12_law 22 = .ok (.getfield 160, 3) := by decide +kernel
theorem dX12_law_25 : decode cX12_law 25 = .ok (.istore_n 2, 1) := by decide +kernel
theorem dX12_law_26 : decode cX12_law 26 = .ok (.aload_n 0, 1) := by decide +kernel
theorem dX12_law_27 : decode cX12_law 27 = .ok (.iconst 0, 1) := by decide +kernel
theorem dX12_law_28 : decode cX12_law 28 = .ok (.putfield 160, 3) := by decide +kernel
theorem dX12_law_31 : decode cX12_law 31 = .ok (.iload_n 1, 1) := by decide +kernel
theorem dX12_law_32 : decode cX12_law 32 = .ok (.ifCond .ne 11, 3) := by decide +kernel
theorem dX12_law_35 : decode cX12_law 35 = .ok (.bipush (-20), 2) := by decide +kernel
theorem dX12_law_37 : decode cX12_law 37 = .ok (.aload_n 0, 1) := by decide +kernel
theorem dX12_law_38 : decode cX12_law 38 = .ok (.getfield 163, 3) := by decide +kernel
theorem dX12_law_41 : decode cX12_law 41 = .ok (.isub, 1) := by decide +kernel
theorem dX12_law_42 : decode cX12_law 42 = .ok (.ireturn, 1) := by decide +kernel
theorem dX12_law_43 : decode cX12_law 43 = .ok (.iconst 0, 1) := by decide +kernel
theorem dX12_law_44 : decode cX12_law 44 = .ok (.istore_n 3, 1) := by decide +kernel
theorem dX12_law_45 : decode cX12_law 45 = .ok (.iload_n 3, 1) := by decide +kernel
theorem dX12_law_46 : decode cX12_law 46 = .ok (.iload_n 2, 1) := by decide +kernel
theorem dX12_law_47 : decode cX12_law 47 = .ok (.if_icmp .ge 29, 3) := by decide +kernel
theorem dX12_law_50 : decode cX12_law 50 = .ok (.aload_n 0, 1) := by decide +kernel
theorem dX12_law_51 : decode cX12_law 51 = .ok (.getfield 25, 3) := by decide +kernel
theorem dX12_law_54 : decode cX12_law 54 = .ok (.bipush 40, 2) := by decide +kernel
theorem dX12_law_56 : decode cX12_law 56 = .ok (.aload_n 0, 1) := by decide +kernel
theorem dX12_law_57 : decode cX12_law 57 = .ok (.getfield 186, 3) := by decide +kernel
theorem dX12_law_60 : decode cX12_law 60 = .ok (.imul, 1) := by decide +kernel
theorem dX12_law_61 : decode cX12_law 61 = .ok (.iload_n 3, 1) := by decide +kernel
theorem dX12_law_62 : decode cX12_law 62 = .ok (.iadd, 1) := by decide +kernel
theorem dX12_law_63 : decode cX12_law 63 = .ok (.aload_n 0, 1) := by decide +kernel
theorem dX12_law_64 : decode cX12_law 64 = .ok (.getfield 22, 3) := by decide +kernel
theorem dX12_law_67 : decode cX12_law 67 = .ok (.iload_n 3, 1) := by decide +kernel
theorem dX12_law_68 : decode cX12_law 68 = .ok (.iaload, 1) := by decide +kernel
theorem dX12_law_69 : decode cX12_law 69 = .ok (.iastore, 1) := by decide +kernel
theorem dX12_law_70 : decode cX12_law 70 = .ok (.iinc 3 1, 3) := by decide +kernel
theorem dX12_law_73 : decode cX12_law 73 = .ok (.goto (-28), 3) := by decide +kernel
theorem dX12_law_76 : decode cX12_law 76 = .ok (.aload_n 0, 1) := by decide +kernel
theorem dX12_law_77 : decode cX12_law 77 = .ok (.getfield 28, 3) := by decide +kernel
theorem dX12_law_80 : decode cX12_law 80 = .ok (.aload_n 0, 1) := by decide +kernel
theorem dX12_law_81 : decode cX12_law 81 = .ok (.getfield 186, 3) := by decide +kernel
theorem dX12_law_84 : decode cX12_law 84 = .ok (.iload_n 2, 1) := by decide +kernel
theorem dX12_law_85 : decode cX12_law 85 = .ok (.iastore, 1) := by decide +kernel
theorem dX12_law_86 : decode cX12_law 86 = .ok (.aload_n 0, 1) := by decide +kernel
theorem dX12_law_87 : decode cX12_law 87 = .ok (.getfield 40, 3) := by decide +kernel
theorem dX12_law_90 : decode cX12_law 90 = .ok (.aload_n 0, 1) := by decide +kernel
theorem dX12_law_91 : decode cX12_law 91 = .ok (.getfield 186, 3) := by decide +kernel
theorem dX12_law_94 : decode cX12_law 94 = .ok (.iconst 0, 1) := by decide +kernel
theorem dX12_law_95 : decode cX12_law 95 = .ok (.bastore, 1) := by decide +kernel
theorem dX12_law_96 : decode cX12_law 96 = .ok (.aload_n 0, 1) := by decide +kernel
theorem dX12_law_97 : decode cX12_law 97 = .ok (.dup, 1) := by decide +kernel
theorem dX12_law_98 : decode cX12_law 98 = .ok (.getfield 186, 3) := by decide +kernel
theorem dX12_law_101 : decode cX12_law 101 = .ok (.iconst 1, 1) := by decide +kernel
theorem dX12_law_102 : decode cX12_law 102 = .ok (.iadd, 1) := by decide +kernel
theorem dX12_law_103 : decode cX12_law 103 = .ok (.putfield 186, 3) := by decide +kernel
theorem dX12_law_106 : decode cX12_law 106 = .ok (.aload_n 0, 1) := by decide +kernel
theorem dX12_law_107 : decode cX12_law 107 = .ok (.iconst 0, 1) := by decide +kernel
theorem dX12_law_108 : decode cX12_law 108 = .ok (.putfield 121, 3) := by decide +kernel
theorem dX12_law_111 : decode cX12_law 111 = .ok (.aload_n 0, 1) := by decide +kernel
theorem dX12_law_112 : decode cX12_law 112 = .ok (.getfield 186, 3) := by decide +kernel
theorem dX12_law_115 : decode cX12_law 115 = .ok (.iconst 1, 1) := by decide +kernel
theorem dX12_law_116 : decode cX12_law 116 = .ok (.isub, 1) := by decide +kernel
theorem dX12_law_117 : decode cX12_law 117 = .ok (.ireturn, 1) := by decide +kernel
theorem dX12_holds_0 : decode cX12_holds 0 = .ok (.iload_n 1, 1) := by decide +kernel
theorem dX12_holds_1 : decode cX12_holds 1 = .ok (.i2l, 1) := by decide +kernel
theorem dX12_holds_2 : decode cX12_holds 2 = .ok (.lconst 0, 1) := by decide +kernel
theorem dX12_holds_3 : decode cX12_holds 3 = .ok (.aload_n 0, 1) := by decide +kernel
theorem dX12_holds_4 : decode cX12_holds 4 = .ok (.getfield 186, 3) := by decide +kernel
theorem dX12_holds_7 : decode cX12_holds 7 = .ok (.iconst 1, 1) := by decide +kernel
theorem dX12_holds_8 : decode cX12_holds 8 = .ok (.isub, 1) := by decide +kernel
theorem dX12_holds_9 : decode cX12_holds 9 = .ok (.i2l, 1) := by decide +kernel
theorem dX12_holds_10 : decode cX12_holds 10 = .ok (.invokestatic 109, 3) := by decide +kernel
theorem dX12_holds_13 : decode cX12_holds 13 = .ok (.ifCond .ne 9, 3) := by decide +kernel
theorem dX12_holds_16 : decode cX12_holds 16 = .ok (.aload_n 0, 1) := by decide +kernel
theorem dX12_holds_17 : decode cX12_holds 17 = .ok (.iconst (-1), 1) := by decide +kernel
theorem dX12_holds_18 : decode cX12_holds 18 = .ok (.invokevirtual 113, 3) := by decide +kernel
theorem dX12_holds_21 : decode cX12_holds 21 = .ok (.ireturn, 1) := by decide +kernel
theorem dX12_holds_22 : decode cX12_holds 22 = .ok (.aload_n 0, 1) := by decide +kernel
theorem dX12_holds_23 : decode cX12_holds 23 = .ok (.getfield 40, 3) := by decide +kernel
theorem dX12_holds_26 : decode cX12_holds 26 = .ok (.iload_n 1, 1) := by decide +kernel
theorem dX12_holds_27 : decode cX12_holds 27 = .ok (.baload, 1) := by decide +kernel
theorem dX12_holds_28 : decode cX12_holds 28 = .ok (.iload_n 2, 1) := by decide +kernel
theorem dX12_holds_29 : decode cX12_holds 29 = .ok (.if_icmp .eq 5, 3) := by decide +kernel
theorem dX12_holds_32 : decode cX12_holds 32 = .ok (.iconst 0, 1) := by decide +kernel
theorem dX12_holds_33 : decode cX12_holds 33 = .ok (.ireturn, 1) := by decide +kernel
theorem dX12_holds_34 : decode cX12_holds 34 = .ok (.aload_n 0, 1) := by decide +kernel
theorem dX12_holds_35 : decode cX12_holds 35 = .ok (.getfield 40, 3) := by decide +kernel
theorem dX12_holds_38 : decode cX12_holds 38 = .ok (.iload_n 1, 1) := by decide +kernel
theorem dX12_holds_39 : decode cX12_holds 39 = .ok (.iload_n 2, 1) := by decide +kernel
theorem dX12_holds_40 : decode cX12_holds 40 = .ok (.ifCond .ne 7, 3) := by decide +kernel
theorem dX12_holds_43 : decode cX12_holds 43 = .ok (.iconst 1, 1) := by decide +kernel
theorem dX12_holds_44 : decode cX12_holds 44 = .ok (.goto 4, 3) := by decide +kernel
theorem dX12_holds_47 : decode cX12_holds 47 = .ok (.iconst 0, 1) := by decide +kernel
theorem dX12_holds_48 : decode cX12_holds 48 = .ok (.bastore, 1) := by decide +kernel
theorem dX12_holds_49 : decode cX12_holds 49 = .ok (.aload_n 0, 1) := by decide +kernel
theorem dX12_holds_50 : decode cX12_holds 50 = .ok (.iconst 0, 1) := by decide +kernel
theorem dX12_holds_51 : decode cX12_holds 51 = .ok (.putfield 121, 3) := by decide +kernel
theorem dX12_holds_54 : decode cX12_holds 54 = .ok (.iconst 1, 1) := by decide +kernel
theorem dX12_holds_55 : decode cX12_holds 55 = .ok (.ireturn, 1) := by decide +kernel
theorem dX12_unit_0 : decode cX12_unit 0 = .ok (.aload_n 0, 1) := by decide +kernel
theorem dX12_unit_1 : decode cX12_unit 1 = .ok (.invokevirtual 166, 3) := by decide +kernel
theorem dX12_unit_4 : decode cX12_unit 4 = .ok (.istore_n 2, 1) := by decide +kernel
theorem dX12_unit_5 : decode cX12_unit 5 = .ok (.iload_n 2, 1) := by decide +kernel
theorem dX12_unit_6 : decode cX12_unit 6 = .ok (.bipush 120, 2) := by decide +kernel
theorem dX12_unit_8 : decode cX12_unit 8 = .ok (.if_icmp .ne 18, 3) := by decide +kernel
theorem dX12_unit_11 : decode cX12_unit 11 = .ok (.aload_n 0, 1) := by decide +kernel
theorem dX12_unit_12 : decode cX12_unit 12 = .ok (.dup, 1) := by decide +kernel
theorem dX12_unit_13 : decode cX12_unit 13 = .ok (.getfield 163, 3) := by decide +kernel
theorem dX12_unit_16 : decode cX12_unit 16 = .ok (.iconst 1, 1) := by decide +kernel
theorem dX12_unit_17 : decode cX12_unit 17 = .ok (.iadd, 1) := by decide +kernel
theorem dX12_unit_18 : decode cX12_unit 18 = .ok (.putfield 163, 3) := by decide +kernel
theorem dX12_unit_21 : decode cX12_unit 21 = .ok (.aload_n 0, 1) := by decide +kernel
theorem dX12_unit_22 : decode cX12_unit 22 = .ok (.invokevirtual 173, 3) := by decide +kernel
theorem dX12_unit_25 : decode cX12_unit 25 = .ok (.ireturn, 1) := by decide +kernel
theorem dX12_unit_26 : decode cX12_unit 26 = .ok (.iload_n 2, 1) := by decide +kernel
theorem dX12_unit_27 : decode cX12_unit 27 = .ok (.bipush 115, 2) := by decide +kernel
theorem dX12_unit_29 : decode cX12_unit 29 = .ok (.if_icmp .ne 58, 3) := by decide +kernel
theorem dX12_unit_32 : decode cX12_unit 32 = .ok (.aload_n 0, 1) := by decide +kernel
theorem dX12_unit_33 : decode cX12_unit 33 = .ok (.dup, 1) := by decide +kernel
theorem dX12_unit_34 : decode cX12_unit 34 = .ok (.getfield 163, 3) := by decide +kernel
theorem dX12_unit_37 : decode cX12_unit 37 = .ok (.iconst 1, 1) := by decide +kernel
theorem dX12_unit_38 : decode cX12_unit 38 = .ok (.iadd, 1) := by decide +kernel
theorem dX12_unit_39 : decode cX12_unit 39 = .ok (.putfield 163, 3) := by decide +kernel
theorem dX12_unit_42 : decode cX12_unit 42 = .ok (.aload_n 0, 1) := by decide +kernel
theorem dX12_unit_43 : decode cX12_unit 43 = .ok (.invokevirtual 166, 3) := by decide +kernel
theorem dX12_unit_46 : decode cX12_unit 46 = .ok (.bipush 48, 2) := by decide +kernel
theorem dX12_unit_48 : decode cX12_unit 48 = .ok (.isub, 1) := by decide +kernel
theorem dX12_unit_49 : decode cX12_unit 49 = .ok (.istore_n 3, 1) := by decide +kernel
theorem dX12_unit_50 : decode cX12_unit 50 = .ok (.aload_n 0, 1) := by decide +kernel
theorem dX12_unit_51 : decode cX12_unit 51 = .ok (.iload_n 3, 1) := by decide +kernel
theorem dX12_unit_52 : decode cX12_unit 52 = .ok (.invokevirtual 117, 3) := by decide +kernel
theorem dX12_unit_55 : decode cX12_unit 55 = .ok (.ifCond .eq 18, 3) := by decide +kernel
theorem dX12_unit_58 : decode cX12_unit 58 = .ok (.aload_n 0, 1) := by decide +kernel
theorem dX12_unit_59 : decode cX12_unit 59 = .ok (.getfield 13, 3) := by decide +kernel
theorem dX12_unit_62 : decode cX12_unit 62 = .ok (.bipush 6, 2) := by decide +kernel
theorem dX12_unit_64 : decode cX12_unit 64 = .ok (.iload_n 3, 1) := by decide +kernel
theorem dX12_unit_65 : decode cX12_unit 65 = .ok (.imul, 1) := by decide +kernel
theorem dX12_unit_66 : decode cX12_unit 66 = .ok (.iconst 5, 1) := by decide +kernel
theorem dX12_unit_67 : decode cX12_unit 67 = .ok (.iadd, 1) := by decide +kernel
theorem dX12_unit_68 : decode cX12_unit 68 = .ok (.iaload, 1) := by decide +kernel
theorem dX12_unit_69 : decode cX12_unit 69 = .ok (.iload_n 1, 1) := by decide +kernel
theorem dX12_unit_70 : decode cX12_unit 70 = .ok (.if_icmp .le 5, 3) := by decide +kernel
theorem dX12_unit_73 : decode cX12_unit 73 = .ok (.iconst 0, 1) := by decide +kernel
theorem dX12_unit_74 : decode cX12_unit 74 = .ok (.ireturn, 1) := by decide +kernel
theorem dX12_unit_75 : decode cX12_unit 75 = .ok (.aload_n 0, 1) := by decide +kernel
theorem dX12_unit_76 : decode cX12_unit 76 = .ok (.dup, 1) := by decide +kernel
theorem dX12_unit_77 : decode cX12_unit 77 = .ok (.getfield 163, 3) := by decide +kernel
theorem dX12_unit_80 : decode cX12_unit 80 = .ok (.iconst 1, 1) := by decide +kernel
theorem dX12_unit_81 : decode cX12_unit 81 = .ok (.iadd, 1) := by decide +kernel
theorem dX12_unit_82 : decode cX12_unit 82 = .ok (.putfield 163, 3) := by decide +kernel
theorem dX12_unit_85 : decode cX12_unit 85 = .ok (.iconst 1, 1) := by decide +kernel
theorem dX12_unit_86 : decode cX12_unit 86 = .ok (.ireturn, 1) := by decide +kernel
theorem dX12_unit_87 : decode cX12_unit 87 = .ok (.iload_n 2, 1) := by decide +kernel
theorem dX12_unit_88 : decode cX12_unit 88 = .ok (.invokestatic 170, 3) := by decide +kernel
theorem dX12_unit_91 : decode cX12_unit 91 = .ok (.ifCond .ne 5, 3) := by decide +kernel
theorem dX12_unit_94 : decode cX12_unit 94 = .ok (.iconst 0, 1) := by decide +kernel
theorem dX12_unit_95 : decode cX12_unit 95 = .ok (.ireturn, 1) := by decide +kernel
theorem dX12_unit_96 : decode cX12_unit 96 = .ok (.iconst 0, 1) := by decide +kernel
theorem dX12_unit_97 : decode cX12_unit 97 = .ok (.istore_n 3, 1) := by decide +kernel
theorem dX12_unit_98 : decode cX12_unit 98 = .ok (.iload_n 3, 1) := by decide +kernel
theorem dX12_unit_99 : decode cX12_unit 99 = .ok (.iconst 3, 1) := by decide +kernel
theorem dX12_unit_100 : decode cX12_unit 100 = .ok (.if_icmp .ge 29, 3) := by decide +kernel
theorem dX12_unit_103 : decode cX12_unit 103 = .ok (.aload_n 0, 1) := by decide +kernel
theorem dX12_unit_104 : decode cX12_unit 104 = .ok (.invokevirtual 166, 3) := by decide +kernel
theorem dX12_unit_107 : decode cX12_unit 107 = .ok (.invokestatic 170, 3) := by decide +kernel
theorem dX12_unit_110 : decode cX12_unit 110 = .ok (.ifCond .eq 19, 3) := by decide +kernel
theorem dX12_unit_113 : decode cX12_unit 113 = .ok (.aload_n 0, 1) := by decide +kernel
theorem dX12_unit_114 : decode cX12_unit 114 = .ok (.dup, 1) := by decide +kernel
theorem dX12_unit_115 : decode cX12_unit 115 = .ok (.getfield 163, 3) := by decide +kernel
theorem dX12_unit_118 : decode cX12_unit 118 = .ok (.iconst 1, 1) := by decide +kernel
theorem dX12_unit_119 : decode cX12_unit 119 = .ok (.iadd, 1) := by decide +kernel
theorem dX12_unit_120 : decode cX12_unit 120 = .ok (.putfield 163, 3) := by decide +kernel
theorem dX12_unit_123 : decode cX12_unit 123 = .ok (.iinc 3 1, 3) := by decide +kernel
theorem dX12_unit_126 : decode cX12_unit 126 = .ok (.goto (-28), 3) := by decide +kernel
theorem dX12_unit_129 : decode cX12_unit 129 = .ok (.iconst 1, 1) := by decide +kernel
theorem dX12_unit_130 : decode cX12_unit 130 = .ok (.ireturn, 1) := by decide +kernel
theorem dX12_isRule_0 : decode cX12_isRule 0 = .ok (.aload_n 0, 1) := by decide +kernel
theorem dX12_isRule_1 : decode cX12_isRule 1 = .ok (.iconst 0, 1) := by decide +kernel
theorem dX12_isRule_2 : decode cX12_isRule 2 = .ok (.putfield 163, 3) := by decide +kernel
theorem dX12_isRule_5 : decode cX12_isRule 5 = .ok (.iconst 0, 1) := by decide +kernel
theorem dX12_isRule_6 : decode cX12_isRule 6 = .ok (.istore_n 2, 1) := by decide +kernel
theorem dX12_isRule_7 : decode cX12_isRule 7 = .ok (.aload_n 0, 1) := by decide +kernel
theorem dX12_isRule_8 : decode cX12_isRule 8 = .ok (.invokevirtual 166, 3) := by decide +kernel
theorem dX12_isRule_11 : decode cX12_isRule 11 = .ok (.bipush 40, 2) := by decide +kernel
theorem dX12_isRule_13 : decode cX12_isRule 13 = .ok (.if_icmp .ne 26, 3) := by decide +kernel
theorem dX12_isRule_16 : decode cX12_isRule 16 = .ok (.iload_n 2, 1) := by decide +kernel
theorem dX12_isRule_17 : decode cX12_isRule 17 = .ok (.iconst 4, 1) := by decide +kernel
theorem dX12_isRule_18 : decode cX12_isRule 18 = .ok (.if_icmp .ne 5, 3) := by decide +kernel
theorem dX12_isRule_21 : decode cX12_isRule 21 = .ok (.iconst 0, 1) := by decide +kernel
theorem dX12_isRule_22 : decode cX12_isRule 22 = .ok (.ireturn, 1) := by decide +kernel
theorem dX12_isRule_23 : decode cX12_isRule 23 = .ok (.iinc 2 1, 3) := by decide +kernel
theorem dX12_isRule_26 : decode cX12_isRule 26 = .ok (.aload_n 0, 1) := by decide +kernel
theorem dX12_isRule_27 : decode cX12_isRule 27 = .ok (.dup, 1) := by decide +kernel
theorem dX12_isRule_28 : decode cX12_isRule 28 = .ok (.getfield 163, 3) := by decide +kernel
theorem dX12_isRule_31 : decode cX12_isRule 31 = .ok (.iconst 1, 1) := by decide +kernel
theorem dX12_isRule_32 : decode cX12_isRule 32 = .ok (.iadd, 1) := by decide +kernel
theorem dX12_isRule_33 : decode cX12_isRule 33 = .ok (.putfield 163, 3) := by decide +kernel
theorem dX12_isRule_36 : decode cX12_isRule 36 = .ok (.goto (-29), 3) := by decide +kernel
theorem dX12_isRule_39 : decode cX12_isRule 39 = .ok (.aload_n 0, 1) := by decide +kernel
theorem dX12_isRule_40 : decode cX12_isRule 40 = .ok (.iload_n 1, 1) := by decide +kernel
theorem dX12_isRule_41 : decode cX12_isRule 41 = .ok (.invokevirtual 192, 3) := by decide +kernel
theorem dX12_isRule_44 : decode cX12_isRule 44 = .ok (.ifCond .ne 5, 3) := by decide +kernel
theorem dX12_isRule_47 : decode cX12_isRule 47 = .ok (.iconst 0, 1) := by decide +kernel
theorem dX12_isRule_48 : decode cX12_isRule 48 = .ok (.ireturn, 1) := by decide +kernel
theorem dX12_isRule_49 : decode cX12_isRule 49 = .ok (.aload_n 0, 1) := by decide +kernel
theorem dX12_isRule_50 : decode cX12_isRule 50 = .ok (.invokevirtual 166, 3) := by decide +kernel
theorem dX12_isRule_53 : decode cX12_isRule 53 = .ok (.bipush 41, 2) := by decide +kernel
theorem dX12_isRule_55 : decode cX12_isRule 55 = .ok (.if_icmp .ne 23, 3) := by decide +kernel
theorem dX12_isRule_58 : decode cX12_isRule 58 = .ok (.iload_n 2, 1) := by decide +kernel
theorem dX12_isRule_59 : decode cX12_isRule 59 = .ok (.ifCond .le 19, 3) := by decide +kernel
theorem dX12_isRule_62 : decode cX12_isRule 62 = .ok (.iinc 2 (-1), 3) := by decide +kernel
theorem dX12_isRule_65 : decode cX12_isRule 65 = .ok (.aload_n 0, 1) := by decide +kernel
theorem dX12_isRule_66 : decode cX12_isRule 66 = .ok (.dup, 1) := by decide +kernel
theorem dX12_isRule_67 : decode cX12_isRule 67 = .ok (.getfield 163, 3) := by decide +kernel
theorem dX12_isRule_70 : decode cX12_isRule 70 = .ok (.iconst 1, 1) := by decide +kernel
theorem dX12_isRule_71 : decode cX12_isRule 71 = .ok (.iadd, 1) := by decide +kernel
theorem dX12_isRule_72 : decode cX12_isRule 72 = .ok (.putfield 163, 3) := by decide +kernel
theorem dX12_isRule_75 : decode cX12_isRule 75 = .ok (.goto (-26), 3) := by decide +kernel
theorem dX12_isRule_78 : decode cX12_isRule 78 = .ok (.aload_n 0, 1) := by decide +kernel
theorem dX12_isRule_79 : decode cX12_isRule 79 = .ok (.invokevirtual 166, 3) := by decide +kernel
theorem dX12_isRule_82 : decode cX12_isRule 82 = .ok (.iconst (-1), 1) := by decide +kernel
theorem dX12_isRule_83 : decode cX12_isRule 83 = .ok (.if_icmp .ne 9, 3) := by decide +kernel
theorem dX12_isRule_86 : decode cX12_isRule 86 = .ok (.iload_n 2, 1) := by decide +kernel
theorem dX12_isRule_87 : decode cX12_isRule 87 = .ok (.ifCond .ne 5, 3) := by decide +kernel
theorem dX12_isRule_90 : decode cX12_isRule 90 = .ok (.iconst 1, 1) := by decide +kernel
theorem dX12_isRule_91 : decode cX12_isRule 91 = .ok (.ireturn, 1) := by decide +kernel
theorem dX12_isRule_92 : decode cX12_isRule 92 = .ok (.aload_n 0, 1) := by decide +kernel
theorem dX12_isRule_93 : decode cX12_isRule 93 = .ok (.invokevirtual 166, 3) := by decide +kernel
theorem dX12_isRule_96 : decode cX12_isRule 96 = .ok (.bipush 43, 2) := by decide +kernel
theorem dX12_isRule_98 : decode cX12_isRule 98 = .ok (.if_icmp .eq 23, 3) := by decide +kernel
theorem dX12_isRule_101 : decode cX12_isRule 101 = .ok (.aload_n 0, 1) := by decide +kernel
theorem dX12_isRule_102 : decode cX12_isRule 102 = .ok (.invokevirtual 166, 3) := by decide +kernel
theorem dX12_isRule_105 : decode cX12_isRule 105 = .ok (.bipush 45, 2) := by decide +kernel
theorem dX12_isRule_107 : decode cX12_isRule 107 = .ok (.if_icmp .eq 14, 3) := by decide +kernel
theorem dX12_isRule_110 : decode cX12_isRule 110 = .ok (.aload_n 0, 1) := by decide +kernel
theorem dX12_isRule_111 : decode cX12_isRule 111 = .ok (.invokevirtual 166, 3) := by decide +kernel
theorem dX12_isRule_114 : decode cX12_isRule 114 = .ok (.bipush 42, 2) := by decide +kernel
theorem dX12_isRule_116 : decode cX12_isRule 116 = .ok (.if_icmp .eq 5, 3) := by decide +kernel
theorem dX12_isRule_119 : decode cX12_isRule 119 = .ok (.iconst 0, 1) := by decide +kernel
theorem dX12_isRule_120 : decode cX12_isRule 120 = .ok (.ireturn, 1) := by decide +kernel
theorem dX12_isRule_121 : decode cX12_isRule 121 = .ok (.aload_n 0, 1) := by decide +kernel
theorem dX12_isRule_122 : decode cX12_isRule 122 = .ok (.dup, 1) := by decide +kernel
theorem dX12_isRule_123 : decode cX12_isRule 123 = .ok (.getfield 163, 3) := by decide +kernel
theorem dX12_isRule_126 : decode cX12_isRule 126 = .ok (.iconst 1, 1) := by decide +kernel
theorem dX12_isRule_127 : decode cX12_isRule 127 = .ok (.iadd, 1) := by decide +kernel
theorem dX12_isRule_128 : decode cX12_isRule 128 = .ok (.putfield 163, 3) := by decide +kernel
theorem dX12_isRule_131 : decode cX12_isRule 131 = .ok (.goto (-124), 3) := by decide +kernel
theorem dX12_rule_0 : decode cX12_rule 0 = .ok (.aload_n 0, 1) := by decide +kernel
theorem dX12_rule_1 : decode cX12_rule 1 = .ok (.iload_n 1, 1) := by decide +kernel
theorem dX12_rule_2 : decode cX12_rule 2 = .ok (.invokevirtual 117, 3) := by decide +kernel
theorem dX12_rule_5 : decode cX12_rule 5 = .ok (.ifCond .ne 9, 3) := by decide +kernel
theorem dX12_rule_8 : decode cX12_rule 8 = .ok (.aload_n 0, 1) := by decide +kernel
theorem dX12_rule_9 : decode cX12_rule 9 = .ok (.iconst (-1), 1) := by decide +kernel
theorem dX12_rule_10 : decode cX12_rule 10 = .ok (.invokevirtual 113, 3) := by decide +kernel
theorem dX12_rule_13 : decode cX12_rule 13 = .ok (.ireturn, 1) := by decide +kernel
theorem dX12_rule_14 : decode cX12_rule 14 = .ok (.iload_n 2, 1) := by decide +kernel
theorem dX12_rule_15 : decode cX12_rule 15 = .ok (.i2l, 1) := by decide +kernel
theorem dX12_rule_16 : decode cX12_rule 16 = .ok (.lconst 0, 1) := by decide +kernel
theorem dX12_rule_17 : decode cX12_rule 17 = .ok (.ldc2_w 133, 3) := by decide +kernel
theorem dX12_rule_20 : decode cX12_rule 20 = .ok (.invokestatic 137, 3) := by decide +kernel
theorem dX12_rule_23 : decode cX12_rule 23 = .ok (.istore_n 3, 1) := by decide +kernel
theorem dX12_rule_24 : decode cX12_rule 24 = .ok (.iload_n 3, 1) := by decide +kernel
theorem dX12_rule_25 : decode cX12_rule 25 = .ok (.ifCond .eq 9, 3) := by decide +kernel
theorem dX12_rule_28 : decode cX12_rule 28 = .ok (.aload_n 0, 1) := by decide +kernel
theorem dX12_rule_29 : decode cX12_rule 29 = .ok (.iload_n 3, 1) := by decide +kernel
theorem dX12_rule_30 : decode cX12_rule 30 = .ok (.invokevirtual 113, 3) := by decide +kernel
theorem dX12_rule_33 : decode cX12_rule 33 = .ok (.ireturn, 1) := by decide +kernel
theorem dX12_rule_34 : decode cX12_rule 34 = .ok (.aload_n 0, 1) := by decide +kernel
theorem dX12_rule_35 : decode cX12_rule 35 = .ok (.iload_n 2, 1) := by decide +kernel
theorem dX12_rule_36 : decode cX12_rule 36 = .ok (.invokevirtual 195, 3) := by decide +kernel
theorem dX12_rule_39 : decode cX12_rule 39 = .ok (.istore 4, 2) := by decide +kernel
theorem dX12_rule_41 : decode cX12_rule 41 = .ok (.aload_n 0, 1) := by decide +kernel
theorem dX12_rule_42 : decode cX12_rule 42 = .ok (.getfield 160, 3) := by decide +kernel
theorem dX12_rule_45 : decode cX12_rule 45 = .ok (.istore 5, 2) := by decide +kernel
theorem dX12_rule_47 : decode cX12_rule 47 = .ok (.aload_n 0, 1) := by decide +kernel
theorem dX12_rule_48 : decode cX12_rule 48 = .ok (.iconst 0, 1) := by decide +kernel
theorem dX12_rule_49 : decode cX12_rule 49 = .ok (.putfield 160, 3) := by decide +kernel
theorem dX12_rule_52 : decode cX12_rule 52 = .ok (.iload 4, 2) := by decide +kernel
theorem dX12_rule_54 : decode cX12_rule 54 = .ok (.ifCond .ne 11, 3) := by decide +kernel
theorem dX12_rule_57 : decode cX12_rule 57 = .ok (.bipush (-20), 2) := by decide +kernel
theorem dX12_rule_59 : decode cX12_rule 59 = .ok (.aload_n 0, 1) := by decide +kernel
theorem dX12_rule_60 : decode cX12_rule 60 = .ok (.getfield 163, 3) := by decide +kernel
theorem dX12_rule_63 : decode cX12_rule 63 = .ok (.isub, 1) := by decide +kernel
theorem dX12_rule_64 : decode cX12_rule 64 = .ok (.ireturn, 1) := by decide +kernel
theorem dX12_rule_65 : decode cX12_rule 65 = .ok (.iconst 0, 1) := by decide +kernel
theorem dX12_rule_66 : decode cX12_rule 66 = .ok (.istore 6, 2) := by decide +kernel
theorem dX12_rule_68 : decode cX12_rule 68 = .ok (.iload 6, 2) := by decide +kernel
theorem dX12_rule_70 : decode cX12_rule 70 = .ok (.iload 5, 2) := by decide +kernel
theorem dX12_rule_72 : decode cX12_rule 72 = .ok (.if_icmp .ge 28, 3) := by decide +kernel
theorem dX12_rule_75 : decode cX12_rule 75 = .ok (.aload_n 0, 1) := by decide +kernel
theorem dX12_rule_76 : decode cX12_rule 76 = .ok (.getfield 31, 3) := by decide +kernel
theorem dX12_rule_79 : decode cX12_rule 79 = .ok (.bipush 40, 2) := by decide +kernel
theorem dX12_rule_81 : decode cX12_rule 81 = .ok (.iload_n 1, 1) := by decide +kernel
theorem dX12_rule_82 : decode cX12_rule 82 = .ok (.imul, 1) := by decide +kernel
theorem dX12_rule_83 : decode cX12_rule 83 = .ok (.iload 6, 2) := by decide +kernel
theorem dX12_rule_85 : decode cX12_rule 85 = .ok (.iadd, 1) := by decide +kernel
theorem dX12_rule_86 : decode cX12_rule 86 = .ok (.aload_n 0, 1) := by decide +kernel
theorem dX12_rule_87 : decode cX12_rule 87 = .ok (.getfield 22, 3) := by decide +kernel
theorem dX12_rule_90 : decode cX12_rule 90 = .ok (.iload 6, 2) := by decide +kernel
theorem dX12_rule_92 : decode cX12_rule 92 = .ok (.iaload, 1) := by decide +kernel
theorem dX12_rule_93 : decode cX12_rule 93 = .ok (.iastore, 1) := by decide +kernel
theorem dX12_rule_94 : decode cX12_rule 94 = .ok (.iinc 6 1, 3) := by decide +kernel
theorem dX12_rule_97 : decode cX12_rule 97 = .ok (.goto (-29), 3) := by decide +kernel
theorem dX12_rule_100 : decode cX12_rule 100 = .ok (.aload_n 0, 1) := by decide +kernel
theorem dX12_rule_101 : decode cX12_rule 101 = .ok (.getfield 34, 3) := by decide +kernel
theorem dX12_rule_104 : decode cX12_rule 104 = .ok (.iload_n 1, 1) := by decide +kernel
theorem dX12_rule_105 : decode cX12_rule 105 = .ok (.iload 5, 2) := by decide +kernel
theorem dX12_rule_107 : decode cX12_rule 107 = .ok (.iastore, 1) := by decide +kernel
theorem dX12_rule_108 : decode cX12_rule 108 = .ok (.aload_n 0, 1) := by decide +kernel
theorem dX12_rule_109 : decode cX12_rule 109 = .ok (.getfield 44, 3) := by decide +kernel
theorem dX12_rule_112 : decode cX12_rule 112 = .ok (.iload_n 1, 1) := by decide +kernel
theorem dX12_rule_113 : decode cX12_rule 113 = .ok (.iconst 1, 1) := by decide +kernel
theorem dX12_rule_114 : decode cX12_rule 114 = .ok (.bastore, 1) := by decide +kernel
theorem dX12_rule_115 : decode cX12_rule 115 = .ok (.iconst 1, 1) := by decide +kernel
theorem dX12_rule_116 : decode cX12_rule 116 = .ok (.ireturn, 1) := by decide +kernel
theorem dX12_unrule_0 : decode cX12_unrule 0 = .ok (.aload_n 0, 1) := by decide +kernel
theorem dX12_unrule_1 : decode cX12_unrule 1 = .ok (.iload_n 1, 1) := by decide +kernel
theorem dX12_unrule_2 : decode cX12_unrule 2 = .ok (.invokevirtual 117, 3) := by decide +kernel
theorem dX12_unrule_5 : decode cX12_unrule 5 = .ok (.ifCond .ne 9, 3) := by decide +kernel
theorem dX12_unrule_8 : decode cX12_unrule 8 = .ok (.aload_n 0, 1) := by decide +kernel
theorem dX12_unrule_9 : decode cX12_unrule 9 = .ok (.iconst (-1), 1) := by decide +kernel
theorem dX12_unrule_10 : decode cX12_unrule 10 = .ok (.invokevirtual 113, 3) := by decide +kernel
theorem dX12_unrule_13 : decode cX12_unrule 13 = .ok (.ireturn, 1) := by decide +kernel
theorem dX12_unrule_14 : decode cX12_unrule 14 = .ok (.aload_n 0, 1) := by decide +kernel
theorem dX12_unrule_15 : decode cX12_unrule 15 = .ok (.getfield 44, 3) := by decide +kernel
theorem dX12_unrule_18 : decode cX12_unrule 18 = .ok (.iload_n 1, 1) := by decide +kernel
theorem dX12_unrule_19 : decode cX12_unrule 19 = .ok (.baload, 1) := by decide +kernel
theorem dX12_unrule_20 : decode cX12_unrule 20 = .ok (.ifCond .eq 7, 3) := by decide +kernel
theorem dX12_unrule_23 : decode cX12_unrule 23 = .ok (.iconst 1, 1) := by decide +kernel
theorem dX12_unrule_24 : decode cX12_unrule 24 = .ok (.goto 4, 3) := by decide +kernel
theorem dX12_unrule_27 : decode cX12_unrule 27 = .ok (.iconst 0, 1) := by decide +kernel
theorem dX12_unrule_28 : decode cX12_unrule 28 = .ok (.istore_n 2, 1) := by decide +kernel
theorem dX12_unrule_29 : decode cX12_unrule 29 = .ok (.aload_n 0, 1) := by decide +kernel
theorem dX12_unrule_30 : decode cX12_unrule 30 = .ok (.getfield 44, 3) := by decide +kernel
theorem dX12_unrule_33 : decode cX12_unrule 33 = .ok (.iload_n 1, 1) := by decide +kernel
theorem dX12_unrule_34 : decode cX12_unrule 34 = .ok (.iconst 0, 1) := by decide +kernel
theorem dX12_unrule_35 : decode cX12_unrule 35 = .ok (.bastore, 1) := by decide +kernel
theorem dX12_unrule_36 : decode cX12_unrule 36 = .ok (.iload_n 2, 1) := by decide +kernel
theorem dX12_unrule_37 : decode cX12_unrule 37 = .ok (.ireturn, 1) := by decide +kernel
theorem dX12_push_0 : decode cX12_push 0 = .ok (.aload_n 0, 1) := by decide +kernel
theorem dX12_push_1 : decode cX12_push 1 = .ok (.getfield 50, 3) := by decide +kernel
theorem dX12_push_4 : decode cX12_push 4 = .ok (.aload_n 0, 1) := by decide +kernel
theorem dX12_push_5 : decode cX12_push 5 = .ok (.getfield 198, 3) := by decide +kernel
theorem dX12_push_8 : decode cX12_push 8 = .ok (.iload_n 1, 1) := by decide +kernel
theorem dX12_push_9 : decode cX12_push 9 = .ok (.iastore, 1) := by decide +kernel
theorem dX12_push_10 : decode cX12_push 10 = .ok (.aload_n 0, 1) := by decide +kernel
theorem dX12_push_11 : decode cX12_push 11 = .ok (.dup, 1) := by decide +kernel
theorem dX12_push_12 : decode cX12_push 12 = .ok (.getfield 198, 3) := by decide +kernel
theorem dX12_push_15 : decode cX12_push 15 = .ok (.iconst 1, 1) := by decide +kernel
theorem dX12_push_16 : decode cX12_push 16 = .ok (.iadd, 1) := by decide +kernel
theorem dX12_push_17 : decode cX12_push 17 = .ok (.putfield 198, 3) := by decide +kernel
theorem dX12_push_20 : decode cX12_push 20 = .ok (.return_, 1) := by decide +kernel
theorem dX12_waitsFor_0 : decode cX12_waitsFor 0 = .ok (.aload_n 0, 1) := by decide +kernel
theorem dX12_waitsFor_1 : decode cX12_waitsFor 1 = .ok (.getfield 47, 3) := by decide +kernel
theorem dX12_waitsFor_4 : decode cX12_waitsFor 4 = .ok (.aload_n 0, 1) := by decide +kernel
theorem dX12_waitsFor_5 : decode cX12_waitsFor 5 = .ok (.getfield 201, 3) := by decide +kernel
theorem dX12_waitsFor_8 : decode cX12_waitsFor 8 = .ok (.iload_n 1, 1) := by decide +kernel
theorem dX12_waitsFor_9 : decode cX12_waitsFor 9 = .ok (.iastore, 1) := by decide +kernel
theorem dX12_waitsFor_10 : decode cX12_waitsFor 10 = .ok (.aload_n 0, 1) := by decide +kernel
theorem dX12_waitsFor_11 : decode cX12_waitsFor 11 = .ok (.dup, 1) := by decide +kernel
theorem dX12_waitsFor_12 : decode cX12_waitsFor 12 = .ok (.getfield 201, 3) := by decide +kernel
theorem dX12_waitsFor_15 : decode cX12_waitsFor 15 = .ok (.iconst 1, 1) := by decide +kernel
theorem dX12_waitsFor_16 : decode cX12_waitsFor 16 = .ok (.iadd, 1) := by decide +kernel
theorem dX12_waitsFor_17 : decode cX12_waitsFor 17 = .ok (.putfield 201, 3) := by decide +kernel
theorem dX12_waitsFor_20 : decode cX12_waitsFor 20 = .ok (.return_, 1) := by decide +kernel
theorem dX12_bits_0 : decode cX12_bits 0 = .ok (.iconst 0, 1) := by decide +kernel
theorem dX12_bits_1 : decode cX12_bits 1 = .ok (.istore_n 1, 1) := by decide +kernel
theorem dX12_bits_2 : decode cX12_bits 2 = .ok (.iconst 0, 1) := by decide +kernel
theorem dX12_bits_3 : decode cX12_bits 3 = .ok (.istore_n 2, 1) := by decide +kernel
theorem dX12_bits_4 : decode cX12_bits 4 = .ok (.iload_n 2, 1) := by decide +kernel
theorem dX12_bits_5 : decode cX12_bits 5 = .ok (.bipush 31, 2) := by decide +kernel
theorem dX12_bits_7 : decode cX12_bits 7 = .ok (.if_icmp .ge 17, 3) := by decide +kernel
theorem dX12_bits_10 : decode cX12_bits 10 = .ok (.iload_n 1, 1) := by decide +kernel
theorem dX12_bits_11 : decode cX12_bits 11 = .ok (.iload_n 0, 1) := by decide +kernel
theorem dX12_bits_12 : decode cX12_bits 12 = .ok (.iload_n 2, 1) := by decide +kernel
theorem dX12_bits_13 : decode cX12_bits 13 = .ok (.ishr, 1) := by decide +kernel
theorem dX12_bits_14 : decode cX12_bits 14 = .ok (.iconst 1, 1) := by decide +kernel
theorem dX12_bits_15 : decode cX12_bits 15 = .ok (.iand, 1) := by decide +kernel
theorem dX12_bits_16 : decode cX12_bits 16 = .ok (.iadd, 1) := by decide +kernel
theorem dX12_bits_17 : decode cX12_bits 17 = .ok (.istore_n 1, 1) := by decide +kernel
theorem dX12_bits_18 : decode cX12_bits 18 = .ok (.iinc 2 1, 3) := by decide +kernel
theorem dX12_bits_21 : decode cX12_bits 21 = .ok (.goto (-17), 3) := by decide +kernel
theorem dX12_bits_24 : decode cX12_bits 24 = .ok (.iload_n 1, 1) := by decide +kernel
theorem dX12_bits_25 : decode cX12_bits 25 = .ok (.ireturn, 1) := by decide +kernel
theorem dX12_lawSign_0 : decode cX12_lawSign 0 = .ok (.aload_n 0, 1) := by decide +kernel
theorem dX12_lawSign_1 : decode cX12_lawSign 1 = .ok (.getfield 204, 3) := by decide +kernel
theorem dX12_lawSign_4 : decode cX12_lawSign 4 = .ok (.aload_n 0, 1) := by decide +kernel
theorem dX12_lawSign_5 : decode cX12_lawSign 5 = .ok (.getfield 28, 3) := by decide +kernel
theorem dX12_lawSign_8 : decode cX12_lawSign 8 = .ok (.iload_n 1, 1) := by decide +kernel
theorem dX12_lawSign_9 : decode cX12_lawSign 9 = .ok (.iaload, 1) := by decide +kernel
theorem dX12_lawSign_10 : decode cX12_lawSign 10 = .ok (.if_icmp .ge 20, 3) := by decide +kernel
theorem dX12_lawSign_13 : decode cX12_lawSign 13 = .ok (.aload_n 0, 1) := by decide +kernel
theorem dX12_lawSign_14 : decode cX12_lawSign 14 = .ok (.getfield 25, 3) := by decide +kernel
theorem dX12_lawSign_17 : decode cX12_lawSign 17 = .ok (.bipush 40, 2) := by decide +kernel
theorem dX12_lawSign_19 : decode cX12_lawSign 19 = .ok (.iload_n 1, 1) := by decide +kernel
theorem dX12_lawSign_20 : decode cX12_lawSign 20 = .ok (.imul, 1) := by decide +kernel
theorem dX12_lawSign_21 : decode cX12_lawSign 21 = .ok (.aload_n 0, 1) := by decide +kernel
theorem dX12_lawSign_22 : decode cX12_lawSign 22 = .ok (.getfield 204, 3) := by decide +kernel
theorem dX12_lawSign_25 : decode cX12_lawSign 25 = .ok (.iadd, 1) := by decide +kernel
theorem dX12_lawSign_26 : decode cX12_lawSign 26 = .ok (.iaload, 1) := by decide +kernel
theorem dX12_lawSign_27 : decode cX12_lawSign 27 = .ok (.goto 4, 3) := by decide +kernel
theorem dX12_lawSign_30 : decode cX12_lawSign 30 = .ok (.iconst (-1), 1) := by decide +kernel
theorem dX12_lawSign_31 : decode cX12_lawSign 31 = .ok (.ireturn, 1) := by decide +kernel
theorem dX12_rank_0 : decode cX12_rank 0 = .ok (.iload_n 0, 1) := by decide +kernel
theorem dX12_rank_1 : decode cX12_rank 1 = .ok (.bipush 40, 2) := by decide +kernel
theorem dX12_rank_3 : decode cX12_rank 3 = .ok (.if_icmp .ne 7, 3) := by decide +kernel
theorem dX12_rank_6 : decode cX12_rank 6 = .ok (.iconst 0, 1) := by decide +kernel
theorem dX12_rank_7 : decode cX12_rank 7 = .ok (.goto 44, 3) := by decide +kernel
theorem dX12_rank_10 : decode cX12_rank 10 = .ok (.iload_n 0, 1) := by decide +kernel
theorem dX12_rank_11 : decode cX12_rank 11 = .ok (.bipush 124, 2) := by decide +kernel
theorem dX12_rank_13 : decode cX12_rank 13 = .ok (.if_icmp .ne 7, 3) := by decide +kernel
theorem dX12_rank_16 : decode cX12_rank 16 = .ok (.iconst 1, 1) := by decide +kernel
theorem dX12_rank_17 : decode cX12_rank 17 = .ok (.goto 34, 3) := by decide +kernel
theorem dX12_rank_20 : decode cX12_rank 20 = .ok (.iload_n 0, 1) := by decide +kernel
theorem dX12_rank_21 : decode cX12_rank 21 = .ok (.bipush 38, 2) := by decide +kernel
theorem dX12_rank_23 : decode cX12_rank 23 = .ok (.if_icmp .ne 7, 3) := by decide +kernel
theorem dX12_rank_26 : decode cX12_rank 26 = .ok (.iconst 2, 1) := by decide +kernel
theorem dX12_rank_27 : decode cX12_rank 27 = .ok (.goto 24, 3) := by decide +kernel
theorem dX12_rank_30 : decode cX12_rank 30 = .ok (.iload_n 0, 1) := by decide +kernel
theorem dX12_rank_31 : decode cX12_rank 31 = .ok (.bipush 33, 2) := by decide +kernel
theorem dX12_rank_33 : decode cX12_rank 33 = .ok (.if_icmp .ne 7, 3) := by decide +kernel
theorem dX12_rank_36 : decode cX12_rank 36 = .ok (.iconst 3, 1) := by decide +kernel
theorem dX12_rank_37 : decode cX12_rank 37 = .ok (.goto 14, 3) := by decide +kernel
theorem dX12_rank_40 : decode cX12_rank 40 = .ok (.iload_n 0, 1) := by decide +kernel
theorem dX12_rank_41 : decode cX12_rank 41 = .ok (.bipush 42, 2) := by decide +kernel
theorem dX12_rank_43 : decode cX12_rank 43 = .ok (.if_icmp .ne 7, 3) := by decide +kernel
theorem dX12_rank_46 : decode cX12_rank 46 = .ok (.iconst 5, 1) := by decide +kernel
theorem dX12_rank_47 : decode cX12_rank 47 = .ok (.goto 4, 3) := by decide +kernel
theorem dX12_rank_50 : decode cX12_rank 50 = .ok (.iconst 4, 1) := by decide +kernel
theorem dX12_rank_51 : decode cX12_rank 51 = .ok (.ireturn, 1) := by decide +kernel
theorem dX12_works_0 : decode cX12_works 0 = .ok (.aload_n 0, 1) := by decide +kernel
theorem dX12_works_1 : decode cX12_works 1 = .ok (.getfield 201, 3) := by decide +kernel
theorem dX12_works_4 : decode cX12_works 4 = .ok (.ifCond .le 177, 3) := by decide +kernel
theorem dX12_works_7 : decode cX12_works 7 = .ok (.aload_n 0, 1) := by decide +kernel
theorem dX12_works_8 : decode cX12_works 8 = .ok (.getfield 47, 3) := by decide +kernel
theorem dX12_works_11 : decode cX12_works 11 = .ok (.aload_n 0, 1) := by decide +kernel
theorem dX12_works_12 : decode cX12_works 12 = .ok (.getfield 201, 3) := by decide +kernel
theorem dX12_works_15 : decode cX12_works 15 = .ok (.iconst 1, 1) := by decide +kernel
theorem dX12_works_16 : decode cX12_works 16 = .ok (.isub, 1) := by decide +kernel
theorem dX12_works_17 : decode cX12_works 17 = .ok (.iaload, 1) := by decide +kernel
theorem dX12_works_18 : decode cX12_works 18 = .ok (.invokestatic 207, 3) := by decide +kernel
theorem dX12_works_21 : decode cX12_works 21 = .ok (.iload_n 1, 1) := by decide +kernel
theorem dX12_works_22 : decode cX12_works 22 = .ok (.if_icmp .lt 159, 3) := by decide +kernel
theorem dX12_works_25 : decode cX12_works 25 = .ok (.aload_n 0, 1) := by decide +kernel
theorem dX12_works_26 : decode cX12_works 26 = .ok (.dup, 1) := by decide +kernel
theorem dX12_works_27 : decode cX12_works 27 = .ok (.getfield 201, 3) := by decide +kernel
theorem dX12_works_30 : decode cX12_works 30 = .ok (.iconst 1, 1) := by decide +kernel
theorem dX12_works_31 : decode cX12_works 31 = .ok (.isub, 1) := by decide +kernel
theorem dX12_works_32 : decode cX12_works 32 = .ok (.putfield 201, 3) := by decide +kernel
theorem dX12_works_35 : decode cX12_works 35 = .ok (.aload_n 0, 1) := by decide +kernel
theorem dX12_works_36 : decode cX12_works 36 = .ok (.getfield 47, 3) := by decide +kernel
theorem dX12_works_39 : decode cX12_works 39 = .ok (.aload_n 0, 1) := by decide +kernel
theorem dX12_works_40 : decode cX12_works 40 = .ok (.getfield 201, 3) := by decide +kernel
theorem dX12_works_43 : decode cX12_works 43 = .ok (.iaload, 1) := by decide +kernel
theorem dX12_works_44 : decode cX12_works 44 = .ok (.istore_n 2, 1) := by decide +kernel
theorem dX12_works_45 : decode cX12_works 45 = .ok (.iload_n 2, 1) := by decide +kernel
theorem dX12_works_46 : decode cX12_works 46 = .ok (.bipush 33, 2) := by decide +kernel
theorem dX12_works_48 : decode cX12_works 48 = .ok (.if_icmp .ne 30, 3) := by decide +kernel
theorem dX12_works_51 : decode cX12_works 51 = .ok (.aload_n 0, 1) := by decide +kernel
theorem dX12_works_52 : decode cX12_works 52 = .ok (.getfield 50, 3) := by decide +kernel
theorem dX12_works_55 : decode cX12_works 55 = .ok (.aload_n 0, 1) := by decide +kernel
theorem dX12_works_56 : decode cX12_works 56 = .ok (.getfield 198, 3) := by decide +kernel
theorem dX12_works_59 : decode cX12_works 59 = .ok (.iconst 1, 1) := by decide +kernel
theorem dX12_works_60 : decode cX12_works 60 = .ok (.isub, 1) := by decide +kernel
theorem dX12_works_61 : decode cX12_works 61 = .ok (.iconst 1, 1) := by decide +kernel
theorem dX12_works_62 : decode cX12_works 62 = .ok (.aload_n 0, 1) := by decide +kernel
theorem dX12_works_63 : decode cX12_works 63 = .ok (.getfield 50, 3) := by decide +kernel
theorem dX12_works_66 : decode cX12_works 66 = .ok (.aload_n 0, 1) := by decide +kernel
theorem dX12_works_67 : decode cX12_works 67 = .ok (.getfield 198, 3) := by decide +kernel
theorem dX12_works_70 : decode cX12_works 70 = .ok (.iconst 1, 1) := by decide +kernel
theorem dX12_works_71 : decode cX12_works 71 = .ok (.isub, 1) := by decide +kernel
theorem dX12_works_72 : decode cX12_works 72 = .ok (.iaload, 1) := by decide +kernel
theorem dX12_works_73 : decode cX12_works 73 = .ok (.isub, 1) := by decide +kernel
theorem dX12_works_74 : decode cX12_works 74 = .ok (.iastore, 1) := by decide +kernel
theorem dX12_works_75 : decode cX12_works 75 = .ok (.goto (-75), 3) := by decide +kernel
theorem dX12_works_78 : decode cX12_works 78 = .ok (.aload_n 0, 1) := by decide +kernel
theorem dX12_works_79 : decode cX12_works 79 = .ok (.dup, 1) := by decide +kernel
theorem dX12_works_80 : decode cX12_works 80 = .ok (.getfield 198, 3) := by decide +kernel
theorem dX12_works_83 : decode cX12_works 83 = .ok (.iconst 1, 1) := by decide +kernel
theorem dX12_works_84 : decode cX12_works 84 = .ok (.isub, 1) := by decide +kernel
theorem dX12_works_85 : decode cX12_works 85 = .ok (.putfield 198, 3) := by decide +kernel
theorem dX12_works_88 : decode cX12_works 88 = .ok (.aload_n 0, 1) := by decide +kernel
theorem dX12_works_89 : decode cX12_works 89 = .ok (.getfield 50, 3) := by decide +kernel
theorem dX12_works_92 : decode cX12_works 92 = .ok (.aload_n 0, 1) := by decide +kernel
theorem dX12_works_93 : decode cX12_works 93 = .ok (.getfield 198, 3) := by decide +kernel
theorem dX12_works_96 : decode cX12_works 96 = .ok (.iconst 1, 1) := by decide +kernel
theorem dX12_works_97 : decode cX12_works 97 = .ok (.isub, 1) := by decide +kernel
theorem dX12_works_98 : decode cX12_works 98 = .ok (.iaload, 1) := by decide +kernel
theorem dX12_works_99 : decode cX12_works 99 = .ok (.istore_n 3, 1) := by decide +kernel
theorem dX12_works_100 : decode cX12_works 100 = .ok (.aload_n 0, 1) := by decide +kernel
theorem dX12_works_101 : decode cX12_works 101 = .ok (.getfield 50, 3) := by decide +kernel
theorem dX12_works_104 : decode cX12_works 104 = .ok (.aload_n 0, 1) := by decide +kernel
theorem dX12_works_105 : decode cX12_works 105 = .ok (.getfield 198, 3) := by decide +kernel
theorem dX12_works_108 : decode cX12_works 108 = .ok (.iaload, 1) := by decide +kernel
theorem dX12_works_109 : decode cX12_works 109 = .ok (.istore 4, 2) := by decide +kernel
theorem dX12_works_111 : decode cX12_works 111 = .ok (.aload_n 0, 1) := by decide +kernel
theorem dX12_works_112 : decode cX12_works 112 = .ok (.getfield 50, 3) := by decide +kernel
theorem dX12_works_115 : decode cX12_works 115 = .ok (.aload_n 0, 1) := by decide +kernel
theorem dX12_works_116 : decode cX12_works 116 = .ok (.getfield 198, 3) := by decide +kernel
theorem dX12_works_119 : decode cX12_works 119 = .ok (.iconst 1, 1) := by decide +kernel
theorem dX12_works_120 : decode cX12_works 120 = .ok (.isub, 1) := by decide +kernel
theorem dX12_works_121 : decode cX12_works 121 = .ok (.iload_n 2, 1) := by decide +kernel
theorem dX12_works_122 : decode cX12_works 122 = .ok (.bipush 124, 2) := by decide +kernel
theorem dX12_works_124 : decode cX12_works 124 = .ok (.if_icmp .ne 10, 3) := by decide +kernel
theorem dX12_works_127 : decode cX12_works 127 = .ok (.iload_n 3, 1) := by decide +kernel
theorem dX12_works_128 : decode cX12_works 128 = .ok (.iload 4, 2) := by decide +kernel
theorem dX12_works_130 : decode cX12_works 130 = .ok (.ior, 1) := by decide +kernel
theorem dX12_works_131 : decode cX12_works 131 = .ok (.goto 46, 3) := by decide +kernel
theorem dX12_works_134 : decode cX12_works 134 = .ok (.iload_n 2, 1) := by decide +kernel
theorem dX12_works_135 : decode cX12_works 135 = .ok (.bipush 38, 2) := by decide +kernel
theorem dX12_works_137 : decode cX12_works 137 = .ok (.if_icmp .ne 10, 3) := by decide +kernel
theorem dX12_works_140 : decode cX12_works 140 = .ok (.iload_n 3, 1) := by decide +kernel
theorem dX12_works_141 : decode cX12_works 141 = .ok (.iload 4, 2) := by decide +kernel
theorem dX12_works_143 : decode cX12_works 143 = .ok (.iand, 1) := by decide +kernel
theorem dX12_works_144 : decode cX12_works 144 = .ok (.goto 33, 3) := by decide +kernel
theorem dX12_works_147 : decode cX12_works 147 = .ok (.iload_n 2, 1) := by decide +kernel
theorem dX12_works_148 : decode cX12_works 148 = .ok (.bipush 42, 2) := by decide +kernel
theorem dX12_works_150 : decode cX12_works 150 = .ok (.if_icmp .ne 10, 3) := by decide +kernel
theorem dX12_works_153 : decode cX12_works 153 = .ok (.iload_n 3, 1) := by decide +kernel
theorem dX12_works_154 : decode cX12_works 154 = .ok (.iload 4, 2) := by decide +kernel
theorem dX12_works_156 : decode cX12_works 156 = .ok (.imul, 1) := by decide +kernel
theorem dX12_works_157 : decode cX12_works 157 = .ok (.goto 20, 3) := by decide +kernel
theorem dX12_works_160 : decode cX12_works 160 = .ok (.iload_n 2, 1) := by decide +kernel
theorem dX12_works_161 : decode cX12_works 161 = .ok (.bipush 43, 2) := by decide +kernel
theorem dX12_works_163 : decode cX12_works 163 = .ok (.if_icmp .ne 10, 3) := by decide +kernel
theorem dX12_works_166 : decode cX12_works 166 = .ok (.iload_n 3, 1) := by decide +kernel
theorem dX12_works_167 : decode cX12_works 167 = .ok (.iload 4, 2) := by decide +kernel
theorem dX12_works_169 : decode cX12_works 169 = .ok (.iadd, 1) := by decide +kernel
theorem dX12_works_170 : decode cX12_works 170 = .ok (.goto 7, 3) := by decide +kernel
theorem dX12_works_173 : decode cX12_works 173 = .ok (.iload_n 3, 1) := by decide +kernel
theorem dX12_works_174 : decode cX12_works 174 = .ok (.iload 4, 2) := by decide +kernel
theorem dX12_works_176 : decode cX12_works 176 = .ok (.isub, 1) := by decide +kernel
theorem dX12_works_177 : decode cX12_works 177 = .ok (.iastore, 1) := by decide +kernel
theorem dX12_works_178 : decode cX12_works 178 = .ok (.goto (-178), 3) := by decide +kernel
theorem dX12_works_181 : decode cX12_works 181 = .ok (.return_, 1) := by decide +kernel
theorem dX12_compared_0 : decode cX12_compared 0 = .ok (.aload_n 0, 1) := by decide +kernel
theorem dX12_compared_1 : decode cX12_compared 1 = .ok (.iload_n 1, 1) := by decide +kernel
theorem dX12_compared_2 : decode cX12_compared 2 = .ok (.invokevirtual 210, 3) := by decide +kernel
theorem dX12_compared_5 : decode cX12_compared 5 = .ok (.istore_n 3, 1) := by decide +kernel
theorem dX12_compared_6 : decode cX12_compared 6 = .ok (.aload_n 0, 1) := by decide +kernel
theorem dX12_compared_7 : decode cX12_compared 7 = .ok (.dup, 1) := by decide +kernel
theorem dX12_compared_8 : decode cX12_compared 8 = .ok (.getfield 204, 3) := by decide +kernel
theorem dX12_compared_11 : decode cX12_compared 11 = .ok (.iconst 1, 1) := by decide +kernel
theorem dX12_compared_12 : decode cX12_compared 12 = .ok (.iadd, 1) := by decide +kernel
theorem dX12_compared_13 : decode cX12_compared 13 = .ok (.putfield 204, 3) := by decide +kernel
theorem dX12_compared_16 : decode cX12_compared 16 = .ok (.iload_n 3, 1) := by decide +kernel
theorem dX12_compared_17 : decode cX12_compared 17 = .ok (.bipush 98, 2) := by decide +kernel
theorem dX12_compared_19 : decode cX12_compared 19 = .ok (.if_icmp .ne 40, 3) := by decide +kernel
theorem dX12_compared_22 : decode cX12_compared 22 = .ok (.aload_n 0, 1) := by decide +kernel
theorem dX12_compared_23 : decode cX12_compared 23 = .ok (.iload_n 1, 1) := by decide +kernel
theorem dX12_compared_24 : decode cX12_compared 24 = .ok (.invokevirtual 210, 3) := by decide +kernel
theorem dX12_compared_27 : decode cX12_compared 27 = .ok (.bipush 48, 2) := by decide +kernel
theorem dX12_compared_29 : decode cX12_compared 29 = .ok (.isub, 1) := by decide +kernel
theorem dX12_compared_30 : decode cX12_compared 30 = .ok (.istore 4, 2) := by decide +kernel
theorem dX12_compared_32 : decode cX12_compared 32 = .ok (.aload_n 0, 1) := by decide +kernel
theorem dX12_compared_33 : decode cX12_compared 33 = .ok (.dup, 1) := by decide +kernel
theorem dX12_compared_34 : decode cX12_compared 34 = .ok (.getfield 204, 3) := by decide +kernel
theorem dX12_compared_37 : decode cX12_compared 37 = .ok (.iconst 1, 1) := by decide +kernel
theorem dX12_compared_38 : decode cX12_compared 38 = .ok (.iadd, 1) := by decide +kernel
theorem dX12_compared_39 : decode cX12_compared 39 = .ok (.putfield 204, 3) := by decide +kernel
theorem dX12_compared_42 : decode cX12_compared 42 = .ok (.iload 4, 2) := by decide +kernel
theorem dX12_compared_44 : decode cX12_compared 44 = .ok (.iconst 4, 1) := by decide +kernel
theorem dX12_compared_45 : decode cX12_compared 45 = .ok (.if_icmp .ge 12, 3) := by decide +kernel
theorem dX12_compared_48 : decode cX12_compared 48 = .ok (.iload_n 2, 1) := by decide +kernel
theorem dX12_compared_49 : decode cX12_compared 49 = .ok (.iload 4, 2) := by decide +kernel
theorem dX12_compared_51 : decode cX12_compared 51 = .ok (.ishr, 1) := by decide +kernel
theorem dX12_compared_52 : decode cX12_compared 52 = .ok (.iconst 1, 1) := by decide +kernel
theorem dX12_compared_53 : decode cX12_compared 53 = .ok (.iand, 1) := by decide +kernel
theorem dX12_compared_54 : decode cX12_compared 54 = .ok (.goto 4, 3) := by decide +kernel
theorem dX12_compared_57 : decode cX12_compared 57 = .ok (.iconst 0, 1) := by decide +kernel
theorem dX12_compared_58 : decode cX12_compared 58 = .ok (.ireturn, 1) := by decide +kernel
theorem dX12_compared_59 : decode cX12_compared 59 = .ok (.aload_n 0, 1) := by decide +kernel
theorem dX12_compared_60 : decode cX12_compared 60 = .ok (.iload_n 1, 1) := by decide +kernel
theorem dX12_compared_61 : decode cX12_compared 61 = .ok (.invokevirtual 210, 3) := by decide +kernel
theorem dX12_compared_64 : decode cX12_compared 64 = .ok (.istore 4, 2) := by decide +kernel
theorem dX12_compared_66 : decode cX12_compared 66 = .ok (.aload_n 0, 1) := by decide +kernel
theorem dX12_compared_67 : decode cX12_compared 67 = .ok (.getfield 25, 3) := by decide +kernel
theorem dX12_compared_70 : decode cX12_compared 70 = .ok (.bipush 40, 2) := by decide +kernel
theorem dX12_compared_72 : decode cX12_compared 72 = .ok (.iload_n 1, 1) := by decide +kernel
theorem dX12_compared_73 : decode cX12_compared 73 = .ok (.imul, 1) := by decide +kernel
theorem dX12_compared_74 : decode cX12_compared 74 = .ok (.aload_n 0, 1) := by decide +kernel
theorem dX12_compared_75 : decode cX12_compared 75 = .ok (.getfield 204, 3) := by decide +kernel
theorem dX12_compared_78 : decode cX12_compared 78 = .ok (.iadd, 1) := by decide +kernel
theorem dX12_compared_79 : decode cX12_compared 79 = .ok (.iconst 1, 1) := by decide +kernel
theorem dX12_compared_80 : decode cX12_compared 80 = .ok (.iadd, 1) := by decide +kernel
theorem dX12_compared_81 : decode cX12_compared 81 = .ok (.iaload, 1) := by decide +kernel
theorem dX12_compared_82 : decode cX12_compared 82 = .ok (.bipush 48, 2) := by decide +kernel
theorem dX12_compared_84 : decode cX12_compared 84 = .ok (.isub, 1) := by decide +kernel
theorem dX12_compared_85 : decode cX12_compared 85 = .ok (.istore 5, 2) := by decide +kernel
theorem dX12_compared_87 : decode cX12_compared 87 = .ok (.aload_n 0, 1) := by decide +kernel
theorem dX12_compared_88 : decode cX12_compared 88 = .ok (.dup, 1) := by decide +kernel
theorem dX12_compared_89 : decode cX12_compared 89 = .ok (.getfield 204, 3) := by decide +kernel
theorem dX12_compared_92 : decode cX12_compared 92 = .ok (.iconst 2, 1) := by decide +kernel
theorem dX12_compared_93 : decode cX12_compared 93 = .ok (.iadd, 1) := by decide +kernel
theorem dX12_compared_94 : decode cX12_compared 94 = .ok (.putfield 204, 3) := by decide +kernel
theorem dX12_compared_97 : decode cX12_compared 97 = .ok (.iload_n 2, 1) := by decide +kernel
theorem dX12_compared_98 : decode cX12_compared 98 = .ok (.invokestatic 213, 3) := by decide +kernel
theorem dX12_compared_101 : decode cX12_compared 101 = .ok (.istore 6, 2) := by decide +kernel
theorem dX12_compared_103 : decode cX12_compared 103 = .ok (.iload 4, 2) := by decide +kernel
theorem dX12_compared_105 : decode cX12_compared 105 = .ok (.bipush 60, 2) := by decide +kernel
theorem dX12_compared_107 : decode cX12_compared 107 = .ok (.if_icmp .ne 13, 3) := by decide +kernel
theorem dX12_compared_110 : decode cX12_compared 110 = .ok (.iload 6, 2) := by decide +kernel
theorem dX12_compared_112 : decode cX12_compared 112 = .ok (.iload 5, 2) := by decide +kernel
theorem dX12_compared_114 : decode cX12_compared 114 = .ok (.if_icmp .ge 34, 3) := by decide +kernel
theorem dX12_compared_117 : decode cX12_compared 117 = .ok (.goto 27, 3) := by decide +kernel
theorem dX12_compared_120 : decode cX12_compared 120 = .ok (.iload 4, 2) := by decide +kernel
theorem dX12_compared_122 : decode cX12_compared 122 = .ok (.bipush 62, 2) := by decide +kernel
theorem dX12_compared_124 : decode cX12_compared 124 = .ok (.if_icmp .ne 13, 3) := by decide +kernel
theorem dX12_compared_127 : decode cX12_compared 127 = .ok (.iload 6, 2) := by decide +kernel
theorem dX12_compared_129 : decode cX12_compared 129 = .ok (.iload 5, 2) := by decide +kernel
theorem dX12_compared_131 : decode cX12_compared 131 = .ok (.if_icmp .le 17, 3) := by decide +kernel
theorem dX12_compared_134 : decode cX12_compared 134 = .ok (.goto 10, 3) := by decide +kernel
theorem dX12_compared_137 : decode cX12_compared 137 = .ok (.iload 6, 2) := by decide +kernel
theorem dX12_compared_139 : decode cX12_compared 139 = .ok (.iload 5, 2) := by decide +kernel
theorem dX12_compared_141 : decode cX12_compared 141 = .ok (.if_icmp .ne 7, 3) := by decide +kernel
theorem dX12_compared_144 : decode cX12_compared 144 = .ok (.iconst 1, 1) := by decide +kernel
theorem dX12_compared_145 : decode cX12_compared 145 = .ok (.goto 4, 3) := by decide +kernel
theorem dX12_compared_148 : decode cX12_compared 148 = .ok (.iconst 0, 1) := by decide +kernel
theorem dX12_compared_149 : decode cX12_compared 149 = .ok (.ireturn, 1) := by decide +kernel
theorem dX12_letsBy_0 : decode cX12_letsBy 0 = .ok (.aload_n 0, 1) := by decide +kernel
theorem dX12_letsBy_1 : decode cX12_letsBy 1 = .ok (.iconst 0, 1) := by decide +kernel
theorem dX12_letsBy_2 : decode cX12_letsBy 2 = .ok (.putfield 204, 3) := by decide +kernel
theorem dX12_letsBy_5 : decode cX12_letsBy 5 = .ok (.aload_n 0, 1) := by decide +kernel
theorem dX12_letsBy_6 : decode cX12_letsBy 6 = .ok (.iconst 0, 1) := by decide +kernel
theorem dX12_letsBy_7 : decode cX12_letsBy 7 = .ok (.putfield 201, 3) := by decide +kernel
theorem dX12_letsBy_10 : decode cX12_letsBy 10 = .ok (.aload_n 0, 1) := by decide +kernel
theorem dX12_letsBy_11 : decode cX12_letsBy 11 = .ok (.iconst 0, 1) := by decide +kernel
theorem dX12_letsBy_12 : decode cX12_letsBy 12 = .ok (.putfield 198, 3) := by decide +kernel
theorem dX12_letsBy_15 : decode cX12_letsBy 15 = .ok (.aload_n 0, 1) := by decide +kernel
theorem dX12_letsBy_16 : decode cX12_letsBy 16 = .ok (.getfield 204, 3) := by decide +kernel
theorem dX12_letsBy_19 : decode cX12_letsBy 19 = .ok (.aload_n 0, 1) := by decide +kernel
theorem dX12_letsBy_20 : decode cX12_letsBy 20 = .ok (.getfield 28, 3) := by decide +kernel
theorem dX12_letsBy_23 : decode cX12_letsBy 23 = .ok (.iload_n 1, 1) := by decide +kernel
theorem dX12_letsBy_24 : decode cX12_letsBy 24 = .ok (.iaload, 1) := by decide +kernel
theorem dX12_letsBy_25 : decode cX12_letsBy 25 = .ok (.if_icmp .ge 106, 3) := by decide +kernel
theorem dX12_letsBy_28 : decode cX12_letsBy 28 = .ok (.aload_n 0, 1) := by decide +kernel
theorem dX12_letsBy_29 : decode cX12_letsBy 29 = .ok (.iload_n 1, 1) := by decide +kernel
theorem dX12_letsBy_30 : decode cX12_letsBy 30 = .ok (.invokevirtual 210, 3) := by decide +kernel
theorem dX12_letsBy_33 : decode cX12_letsBy 33 = .ok (.istore_n 3, 1) := by decide +kernel
theorem dX12_letsBy_34 : decode cX12_letsBy 34 = .ok (.iload_n 3, 1) := by decide +kernel
theorem dX12_letsBy_35 : decode cX12_letsBy 35 = .ok (.bipush 98, 2) := by decide +kernel
theorem dX12_letsBy_37 : decode cX12_letsBy 37 = .ok (.if_icmp .eq 9, 3) := by decide +kernel
theorem dX12_letsBy_40 : decode cX12_letsBy 40 = .ok (.iload_n 3, 1) := by decide +kernel
theorem dX12_letsBy_41 : decode cX12_letsBy 41 = .ok (.bipush 110, 2) := by decide +kernel
theorem dX12_letsBy_43 : decode cX12_letsBy 43 = .ok (.if_icmp .ne 21, 3) := by decide +kernel
theorem dX12_letsBy_46 : decode cX12_letsBy 46 = .ok (.aload_n 0, 1) := by decide +kernel
theorem dX12_letsBy_47 : decode cX12_letsBy 47 = .ok (.aload_n 0, 1) := by decide +kernel
theorem dX12_letsBy_48 : decode cX12_letsBy 48 = .ok (.iload_n 1, 1) := by decide +kernel
theorem dX12_letsBy_49 : decode cX12_letsBy 49 = .ok (.iload_n 2, 1) := by decide +kernel
theorem dX12_letsBy_50 : decode cX12_letsBy 50 = .ok (.invokevirtual 216, 3) := by decide +kernel
theorem dX12_letsBy_53 : decode cX12_letsBy 53 = .ok (.invokevirtual 219, 3) := by decide +kernel
theorem dX12_letsBy_56 : decode cX12_letsBy 56 = .ok (.aload_n 0, 1) := by decide +kernel
theorem dX12_letsBy_57 : decode cX12_letsBy 57 = .ok (.iconst 3, 1) := by decide +kernel
theorem dX12_letsBy_58 : decode cX12_letsBy 58 = .ok (.invokevirtual 223, 3) := by decide +kernel
theorem dX12_letsBy_61 : decode cX12_letsBy 61 = .ok (.goto (-46), 3) := by decide +kernel
theorem dX12_letsBy_64 : decode cX12_letsBy 64 = .ok (.aload_n 0, 1) := by decide +kernel
theorem dX12_letsBy_65 : decode cX12_letsBy 65 = .ok (.dup, 1) := by decide +kernel
theorem dX12_letsBy_66 : decode cX12_letsBy 66 = .ok (.getfield 204, 3) := by decide +kernel
theorem dX12_letsBy_69 : decode cX12_letsBy 69 = .ok (.iconst 1, 1) := by decide +kernel
theorem dX12_letsBy_70 : decode cX12_letsBy 70 = .ok (.iadd, 1) := by decide +kernel
theorem dX12_letsBy_71 : decode cX12_letsBy 71 = .ok (.putfield 204, 3) := by decide +kernel
theorem dX12_letsBy_74 : decode cX12_letsBy 74 = .ok (.iload_n 3, 1) := by decide +kernel
theorem dX12_letsBy_75 : decode cX12_letsBy 75 = .ok (.bipush 41, 2) := by decide +kernel
theorem dX12_letsBy_77 : decode cX12_letsBy 77 = .ok (.if_icmp .ne 26, 3) := by decide +kernel
theorem dX12_letsBy_80 : decode cX12_letsBy 80 = .ok (.aload_n 0, 1) := by decide +kernel
theorem dX12_letsBy_81 : decode cX12_letsBy 81 = .ok (.iconst 1, 1) := by decide +kernel
theorem dX12_letsBy_82 : decode cX12_letsBy 82 = .ok (.invokevirtual 223, 3) := by decide +kernel
theorem dX12_letsBy_85 : decode cX12_letsBy 85 = .ok (.aload_n 0, 1) := by decide +kernel
theorem dX12_letsBy_86 : decode cX12_letsBy 86 = .ok (.dup, 1) := by decide +kernel
theorem dX12_letsBy_87 : decode cX12_letsBy 87 = .ok (.getfield 201, 3) := by decide +kernel
theorem dX12_letsBy_90 : decode cX12_letsBy 90 = .ok (.iconst 1, 1) := by decide +kernel
theorem dX12_letsBy_91 : decode cX12_letsBy 91 = .ok (.isub, 1) := by decide +kernel
theorem dX12_letsBy_92 : decode cX12_letsBy 92 = .ok (.putfield 201, 3) := by decide +kernel
theorem dX12_letsBy_95 : decode cX12_letsBy 95 = .ok (.aload_n 0, 1) := by decide +kernel
theorem dX12_letsBy_96 : decode cX12_letsBy 96 = .ok (.iconst 3, 1) := by decide +kernel
theorem dX12_letsBy_97 : decode cX12_letsBy 97 = .ok (.invokevirtual 223, 3) := by decide +kernel
theorem dX12_letsBy_100 : decode cX12_letsBy 100 = .ok (.goto 28, 3) := by decide +kernel
theorem dX12_letsBy_103 : decode cX12_letsBy 103 = .ok (.iload_n 3, 1) := by decide +kernel
theorem dX12_letsBy_104 : decode cX12_letsBy 104 = .ok (.bipush 38, 2) := by decide +kernel
theorem dX12_letsBy_106 : decode cX12_letsBy 106 = .ok (.if_icmp .eq 9, 3) := by decide +kernel
theorem dX12_letsBy_109 : decode cX12_letsBy 109 = .ok (.iload_n 3, 1) := by decide +kernel
theorem dX12_letsBy_110 : decode cX12_letsBy 110 = .ok (.bipush 124, 2) := by decide +kernel
theorem dX12_letsBy_112 : decode cX12_letsBy 112 = .ok (.if_icmp .ne 11, 3) := by decide +kernel
theorem dX12_letsBy_115 : decode cX12_letsBy 115 = .ok (.aload_n 0, 1) := by decide +kernel
theorem dX12_letsBy_116 : decode cX12_letsBy 116 = .ok (.iload_n 3, 1) := by decide +kernel
theorem dX12_letsBy_117 : decode cX12_letsBy 117 = .ok (.invokestatic 207, 3) := by decide +kernel
theorem dX12_letsBy_120 : decode cX12_letsBy 120 = .ok (.invokevirtual 223, 3) := by decide +kernel
theorem dX12_letsBy_123 : decode cX12_letsBy 123 = .ok (.aload_n 0, 1) := by decide +kernel
theorem dX12_letsBy_124 : decode cX12_letsBy 124 = .ok (.iload_n 3, 1) := by decide +kernel
theorem dX12_letsBy_125 : decode cX12_letsBy 125 = .ok (.invokevirtual 226, 3) := by decide +kernel
theorem dX12_letsBy_128 : decode cX12_letsBy 128 = .ok (.goto (-113), 3) := by decide +kernel
theorem dX12_letsBy_131 : decode cX12_letsBy 131 = .ok (.aload_n 0, 1) := by decide +kernel
theorem dX12_letsBy_132 : decode cX12_letsBy 132 = .ok (.iconst 1, 1) := by decide +kernel
theorem dX12_letsBy_133 : decode cX12_letsBy 133 = .ok (.invokevirtual 223, 3) := by decide +kernel
theorem dX12_letsBy_136 : decode cX12_letsBy 136 = .ok (.aload_n 0, 1) := by decide +kernel
theorem dX12_letsBy_137 : decode cX12_letsBy 137 = .ok (.getfield 50, 3) := by decide +kernel
theorem dX12_letsBy_140 : decode cX12_letsBy 140 = .ok (.iconst 0, 1) := by decide +kernel
theorem dX12_letsBy_141 : decode cX12_letsBy 141 = .ok (.iaload, 1) := by decide +kernel
theorem dX12_letsBy_142 : decode cX12_letsBy 142 = .ok (.iconst 1, 1) := by decide +kernel
theorem dX12_letsBy_143 : decode cX12_letsBy 143 = .ok (.if_icmp .ne 7, 3) := by decide +kernel
theorem dX12_letsBy_146 : decode cX12_letsBy 146 = .ok (.iconst 1, 1) := by decide +kernel
theorem dX12_letsBy_147 : decode cX12_letsBy 147 = .ok (.goto 4, 3) := by decide +kernel
theorem dX12_letsBy_150 : decode cX12_letsBy 150 = .ok (.iconst 0, 1) := by decide +kernel
theorem dX12_letsBy_151 : decode cX12_letsBy 151 = .ok (.ireturn, 1) := by decide +kernel
theorem dX12_ruleWorth_0 : decode cX12_ruleWorth 0 = .ok (.aload_n 0, 1) := by decide +kernel
theorem dX12_ruleWorth_1 : decode cX12_ruleWorth 1 = .ok (.iconst 0, 1) := by decide +kernel
theorem dX12_ruleWorth_2 : decode cX12_ruleWorth 2 = .ok (.putfield 204, 3) := by decide +kernel
theorem dX12_ruleWorth_5 : decode cX12_ruleWorth 5 = .ok (.aload_n 0, 1) := by decide +kernel
theorem dX12_ruleWorth_6 : decode cX12_ruleWorth 6 = .ok (.iconst 0, 1) := by decide +kernel
theorem dX12_ruleWorth_7 : decode cX12_ruleWorth 7 = .ok (.putfield 201, 3) := by decide +kernel
theorem dX12_ruleWorth_10 : decode cX12_ruleWorth 10 = .ok (.aload_n 0, 1) := by decide +kernel
theorem dX12_ruleWorth_11 : decode cX12_ruleWorth 11 = .ok (.iconst 0, 1) := by decide +kernel
theorem dX12_ruleWorth_12 : decode cX12_ruleWorth 12 = .ok (.putfield 198, 3) := by decide +kernel
theorem dX12_ruleWorth_15 : decode cX12_ruleWorth 15 = .ok (.aload_n 0, 1) := by decide +kernel
theorem dX12_ruleWorth_16 : decode cX12_ruleWorth 16 = .ok (.getfield 204, 3) := by decide +kernel
theorem dX12_ruleWorth_19 : decode cX12_ruleWorth 19 = .ok (.aload_n 0, 1) := by decide +kernel
theorem dX12_ruleWorth_20 : decode cX12_ruleWorth 20 = .ok (.getfield 34, 3) := by decide +kernel
theorem dX12_ruleWorth_23 : decode cX12_ruleWorth 23 = .ok (.iload_n 1, 1) := by decide +kernel
theorem dX12_ruleWorth_24 : decode cX12_ruleWorth 24 = .ok (.iaload, 1) := by decide +kernel
theorem dX12_ruleWorth_25 : decode cX12_ruleWorth 25 = .ok (.if_icmp .ge 256, 3) := by decide +kernel
theorem dX12_ruleWorth_28 : decode cX12_ruleWorth 28 = .ok (.aload_n 0, 1) := by decide +kernel
theorem dX12_ruleWorth_29 : decode cX12_ruleWorth 29 = .ok (.getfield 31, 3) := by decide +kernel
theorem dX12_ruleWorth_32 : decode cX12_ruleWorth 32 = .ok (.bipush 40, 2) := by decide +kernel
theorem dX12_ruleWorth_34 : decode cX12_ruleWorth 34 = .ok (.iload_n 1, 1) := by decide +kernel
theorem dX12_ruleWorth_35 : decode cX12_ruleWorth 35 = .ok (.imul, 1) := by decide +kernel
theorem dX12_ruleWorth_36 : decode cX12_ruleWorth 36 = .ok (.aload_n 0, 1) := by decide +kernel
theorem dX12_ruleWorth_37 : decode cX12_ruleWorth 37 = .ok (.getfield 204, 3) := by decide +kernel
theorem dX12_ruleWorth_40 : decode cX12_ruleWorth 40 = .ok (.iadd, 1) := by decide +kernel
theorem dX12_ruleWorth_41 : decode cX12_ruleWorth 41 = .ok (.iaload, 1) := by decide +kernel
theorem dX12_ruleWorth_42 : decode cX12_ruleWorth 42 = .ok (.istore 4, 2) := by decide +kernel
theorem dX12_ruleWorth_44 : decode cX12_ruleWorth 44 = .ok (.aload_n 0, 1) := by decide +kernel
theorem dX12_ruleWorth_45 : decode cX12_ruleWorth 45 = .ok (.dup, 1) := by decide +kernel
theorem dX12_ruleWorth_46 : decode cX12_ruleWorth 46 = .ok (.getfield 204, 3) := by decide +kernel
theorem dX12_ruleWorth_49 : decode cX12_ruleWorth 49 = .ok (.iconst 1, 1) := by decide +kernel
theorem dX12_ruleWorth_50 : decode cX12_ruleWorth 50 = .ok (.iadd, 1) := by decide +kernel
theorem dX12_ruleWorth_51 : decode cX12_ruleWorth 51 = .ok (.putfield 204, 3) := by decide +kernel
theorem dX12_ruleWorth_54 : decode cX12_ruleWorth 54 = .ok (.iload 4, 2) := by decide +kernel
theorem dX12_ruleWorth_56 : decode cX12_ruleWorth 56 = .ok (.bipush 120, 2) := by decide +kernel
theorem dX12_ruleWorth_58 : decode cX12_ruleWorth 58 = .ok (.if_icmp .eq 10, 3) := by decide +kernel
theorem dX12_ruleWorth_61 : decode cX12_ruleWorth 61 = .ok (.iload 4, 2) := by decide +kernel
theorem dX12_ruleWorth_63 : decode cX12_ruleWorth 63 = .ok (.bipush 115, 2) := by decide +kernel
theorem dX12_ruleWorth_65 : decode cX12_ruleWorth 65 = .ok (.if_icmp .ne 71, 3) := by decide +kernel
theorem dX12_ruleWorth_68 : decode cX12_ruleWorth 68 = .ok (.aload_n 0, 1) := by decide +kernel
theorem dX12_ruleWorth_69 : decode cX12_ruleWorth 69 = .ok (.getfield 31, 3) := by decide +kernel
theorem dX12_ruleWorth_72 : decode cX12_ruleWorth 72 = .ok (.bipush 40, 2) := by decide +kernel
theorem dX12_ruleWorth_74 : decode cX12_ruleWorth 74 = .ok (.iload_n 1, 1) := by decide +kernel
theorem dX12_ruleWorth_75 : decode cX12_ruleWorth 75 = .ok (.imul, 1) := by decide +kernel
theorem dX12_ruleWorth_76 : decode cX12_ruleWorth 76 = .ok (.aload_n 0, 1) := by decide +kernel
theorem dX12_ruleWorth_77 : decode cX12_ruleWorth 77 = .ok (.getfield 204, 3) := by decide +kernel
theorem dX12_ruleWorth_80 : decode cX12_ruleWorth 80 = .ok (.iadd, 1) := by decide +kernel
theorem dX12_ruleWorth_81 : decode cX12_ruleWorth 81 = .ok (.iaload, 1) := by decide +kernel
theorem dX12_ruleWorth_82 : decode cX12_ruleWorth 82 = .ok (.bipush 48, 2) := by decide +kernel
theorem dX12_ruleWorth_84 : decode cX12_ruleWorth 84 = .ok (.isub, 1) := by decide +kernel
theorem dX12_ruleWorth_85 : decode cX12_ruleWorth 85 = .ok (.istore 5, 2) := by decide +kernel
theorem dX12_ruleWorth_87 : decode cX12_ruleWorth 87 = .ok (.aload_n 0, 1) := by decide +kernel
theorem dX12_ruleWorth_88 : decode cX12_ruleWorth 88 = .ok (.dup, 1) := by decide +kernel
theorem dX12_ruleWorth_89 : decode cX12_ruleWorth 89 = .ok (.getfield 204, 3) := by decide +kernel
theorem dX12_ruleWorth_92 : decode cX12_ruleWorth 92 = .ok (.iconst 1, 1) := by decide +kernel
theorem dX12_ruleWorth_93 : decode cX12_ruleWorth 93 = .ok (.iadd, 1) := by decide +kernel
theorem dX12_ruleWorth_94 : decode cX12_ruleWorth 94 = .ok (.putfield 204, 3) := by decide +kernel
theorem dX12_ruleWorth_97 : decode cX12_ruleWorth 97 = .ok (.aload_n 0, 1) := by decide +kernel
theorem dX12_ruleWorth_98 : decode cX12_ruleWorth 98 = .ok (.iload 5, 2) := by decide +kernel
theorem dX12_ruleWorth_100 : decode cX12_ruleWorth 100 = .ok (.iconst 3, 1) := by decide +kernel
theorem dX12_ruleWorth_101 : decode cX12_ruleWorth 101 = .ok (.if_icmp .le 7, 3) := by decide +kernel
theorem dX12_ruleWorth_104 : decode cX12_ruleWorth 104 = .ok (.iconst 0, 1) := by decide +kernel
theorem dX12_ruleWorth_105 : decode cX12_ruleWorth 105 = .ok (.goto 25, 3) := by decide +kernel
theorem dX12_ruleWorth_108 : decode cX12_ruleWorth 108 = .ok (.iload 4, 2) := by decide +kernel
theorem dX12_ruleWorth_110 : decode cX12_ruleWorth 110 = .ok (.bipush 120, 2) := by decide +kernel
theorem dX12_ruleWorth_112 : decode cX12_ruleWorth 112 = .ok (.if_icmp .ne 12, 3) := by decide +kernel
theorem dX12_ruleWorth_115 : decode cX12_ruleWorth 115 = .ok (.iload_n 2, 1) := by decide +kernel
theorem dX12_ruleWorth_116 : decode cX12_ruleWorth 116 = .ok (.iload 5, 2) := by decide +kernel
theorem dX12_ruleWorth_118 : decode cX12_ruleWorth 118 = .ok (.invokestatic 155, 3) := by decide +kernel
theorem dX12_ruleWorth_121 : decode cX12_ruleWorth 121 = .ok (.goto 9, 3) := by decide +kernel
theorem dX12_ruleWorth_124 : decode cX12_ruleWorth 124 = .ok (.iload_n 3, 1) := by decide +kernel
theorem dX12_ruleWorth_125 : decode cX12_ruleWorth 125 = .ok (.iload 5, 2) := by decide +kernel
theorem dX12_ruleWorth_127 : decode cX12_ruleWorth 127 = .ok (.ishr, 1) := by decide +kernel
theorem dX12_ruleWorth_128 : decode cX12_ruleWorth 128 = .ok (.iconst 1, 1) := by decide +kernel
theorem dX12_ruleWorth_129 : decode cX12_ruleWorth 129 = .ok (.iand, 1) := by decide +kernel
theorem dX12_ruleWorth_130 : decode cX12_ruleWorth 130 = .ok (.invokevirtual 219, 3) := by decide +kernel
theorem dX12_ruleWorth_133 : decode cX12_ruleWorth 133 = .ok (.goto 145, 3) := by decide +kernel
theorem dX12_ruleWorth_136 : decode cX12_ruleWorth 136 = .ok (.iload 4, 2) := by decide +kernel
theorem dX12_ruleWorth_138 : decode cX12_ruleWorth 138 = .ok (.invokestatic 170, 3) := by decide +kernel
theorem dX12_ruleWorth_141 : decode cX12_ruleWorth 141 = .ok (.ifCond .eq 90, 3) := by decide +kernel
theorem dX12_ruleWorth_144 : decode cX12_ruleWorth 144 = .ok (.iload 4, 2) := by decide +kernel
theorem dX12_ruleWorth_146 : decode cX12_ruleWorth 146 = .ok (.bipush 48, 2) := by decide +kernel
theorem dX12_ruleWorth_148 : decode cX12_ruleWorth 148 = .ok (.isub, 1) := by decide +kernel
theorem dX12_ruleWorth_149 : decode cX12_ruleWorth 149 = .ok (.istore 5, 2) := by decide +kernel
theorem dX12_ruleWorth_151 : decode cX12_ruleWorth 151 = .ok (.aload_n 0, 1) := by decide +kernel
theorem dX12_ruleWorth_152 : decode cX12_ruleWorth 152 = .ok (.getfield 204, 3) := by decide +kernel
theorem dX12_ruleWorth_155 : decode cX12_ruleWorth 155 = .ok (.aload_n 0, 1) := by decide +kernel
theorem dX12_ruleWorth_156 : decode cX12_ruleWorth 156 = .ok (.getfield 34, 3) := by decide +kernel
theorem dX12_ruleWorth_159 : decode cX12_ruleWorth 159 = .ok (.iload_n 1, 1) := by decide +kernel
theorem dX12_ruleWorth_160 : decode cX12_ruleWorth 160 = .ok (.iaload, 1) := by decide +kernel
theorem dX12_ruleWorth_161 : decode cX12_ruleWorth 161 = .ok (.if_icmp .ge 61, 3) := by decide +kernel
theorem dX12_ruleWorth_164 : decode cX12_ruleWorth 164 = .ok (.aload_n 0, 1) := by decide +kernel
theorem dX12_ruleWorth_165 : decode cX12_ruleWorth 165 = .ok (.getfield 31, 3) := by decide +kernel
theorem dX12_ruleWorth_168 : decode cX12_ruleWorth 168 = .ok (.bipush 40, 2) := by decide +kernel
theorem dX12_ruleWorth_170 : decode cX12_ruleWorth 170 = .ok (.iload_n 1, 1) := by decide +kernel
theorem dX12_ruleWorth_171 : decode cX12_ruleWorth 171 = .ok (.imul, 1) := by decide +kernel
theorem dX12_ruleWorth_172 : decode cX12_ruleWorth 172 = .ok (.aload_n 0, 1) := by decide +kernel
theorem dX12_ruleWorth_173 : decode cX12_ruleWorth 173 = .ok (.getfield 204, 3) := by decide +kernel
theorem dX12_ruleWorth_176 : decode cX12_ruleWorth 176 = .ok (.iadd, 1) := by decide +kernel
theorem dX12_ruleWorth_177 : decode cX12_ruleWorth 177 = .ok (.iaload, 1) := by decide +kernel
theorem dX12_ruleWorth_178 : decode cX12_ruleWorth 178 = .ok (.invokestatic 170, 3) := by decide +kernel
theorem dX12_ruleWorth_181 : decode cX12_ruleWorth 181 = .ok (.ifCond .eq 41, 3) := by decide +kernel
theorem dX12_ruleWorth_184 : decode cX12_ruleWorth 184 = .ok (.bipush 10, 2) := by decide +kernel
theorem dX12_ruleWorth_186 : decode cX12_ruleWorth 186 = .ok (.iload 5, 2) := by decide +kernel
theorem dX12_ruleWorth_188 : decode cX12_ruleWorth 188 = .ok (.imul, 1) := by decide +kernel
theorem dX12_ruleWorth_189 : decode cX12_ruleWorth 189 = .ok (.aload_n 0, 1) := by decide +kernel
theorem dX12_ruleWorth_190 : decode cX12_ruleWorth 190 = .ok (.getfield 31, 3) := by decide +kernel
theorem dX12_ruleWorth_193 : decode cX12_ruleWorth 193 = .ok (.bipush 40, 2) := by decide +kernel
theorem dX12_ruleWorth_195 : decode cX12_ruleWorth 195 = .ok (.iload_n 1, 1) := by decide +kernel
theorem dX12_ruleWorth_196 : decode cX12_ruleWorth 196 = .ok (.imul, 1) := by decide +kernel
theorem dX12_ruleWorth_197 : decode cX12_ruleWorth 197 = .ok (.aload_n 0, 1) := by decide +kernel
theorem dX12_ruleWorth_198 : decode cX12_ruleWorth 198 = .ok (.getfield 204, 3) := by decide +kernel
theorem dX12_ruleWorth_201 : decode cX12_ruleWorth 201 = .ok (.iadd, 1) := by decide +kernel
theorem dX12_ruleWorth_202 : decode cX12_ruleWorth 202 = .ok (.iaload, 1) := by decide +kernel
theorem dX12_ruleWorth_203 : decode cX12_ruleWorth 203 = .ok (.iadd, 1) := by decide +kernel
theorem dX12_ruleWorth_204 : decode cX12_ruleWorth 204 = .ok (.bipush 48, 2) := by decide +kernel
theorem dX12_ruleWorth_206 : decode cX12_ruleWorth 206 = .ok (.isub, 1) := by decide +kernel
theorem dX12_ruleWorth_207 : decode cX12_ruleWorth 207 = .ok (.istore 5, 2) := by decide +kernel
theorem dX12_ruleWorth_209 : decode cX12_ruleWorth 209 = .ok (.aload_n 0, 1) := by decide +kernel
theorem dX12_ruleWorth_210 : decode cX12_ruleWorth 210 = .ok (.dup, 1) := by decide +kernel
theorem dX12_ruleWorth_211 : decode cX12_ruleWorth 211 = .ok (.getfield 204, 3) := by decide +kernel
theorem dX12_ruleWorth_214 : decode cX12_ruleWorth 214 = .ok (.iconst 1, 1) := by decide +kernel
theorem dX12_ruleWorth_215 : decode cX12_ruleWorth 215 = .ok (.iadd, 1) := by decide +kernel
theorem dX12_ruleWorth_216 : decode cX12_ruleWorth 216 = .ok (.putfield 204, 3) := by decide +kernel
theorem dX12_ruleWorth_219 : decode cX12_ruleWorth 219 = .ok (.goto (-68), 3) := by decide +kernel
theorem dX12_ruleWorth_222 : decode cX12_ruleWorth 222 = .ok (.aload_n 0, 1) := by decide +kernel
theorem dX12_ruleWorth_223 : decode cX12_ruleWorth 223 = .ok (.iload 5, 2) := by decide +kernel
theorem dX12_ruleWorth_225 : decode cX12_ruleWorth 225 = .ok (.invokevirtual 219, 3) := by decide +kernel
theorem dX12_ruleWorth_228 : decode cX12_ruleWorth 228 = .ok (.goto 50, 3) := by decide +kernel
theorem dX12_ruleWorth_231 : decode cX12_ruleWorth 231 = .ok (.iload 4, 2) := by decide +kernel
theorem dX12_ruleWorth_233 : decode cX12_ruleWorth 233 = .ok (.bipush 41, 2) := by decide +kernel
theorem dX12_ruleWorth_235 : decode cX12_ruleWorth 235 = .ok (.if_icmp .ne 21, 3) := by decide +kernel
theorem dX12_ruleWorth_238 : decode cX12_ruleWorth 238 = .ok (.aload_n 0, 1) := by decide +kernel
theorem dX12_ruleWorth_239 : decode cX12_ruleWorth 239 = .ok (.iconst 1, 1) := by decide +kernel
theorem dX12_ruleWorth_240 : decode cX12_ruleWorth 240 = .ok (.invokevirtual 223, 3) := by decide +kernel
theorem dX12_ruleWorth_243 : decode cX12_ruleWorth 243 = .ok (.aload_n 0, 1) := by decide +kernel
theorem dX12_ruleWorth_244 : decode cX12_ruleWorth 244 = .ok (.dup, 1) := by decide +kernel
theorem dX12_ruleWorth_245 : decode cX12_ruleWorth 245 = .ok (.getfield 201, 3) := by decide +kernel
theorem dX12_ruleWorth_248 : decode cX12_ruleWorth 248 = .ok (.iconst 1, 1) := by decide +kernel
theorem dX12_ruleWorth_249 : decode cX12_ruleWorth 249 = .ok (.isub, 1) := by decide +kernel
theorem dX12_ruleWorth_250 : decode cX12_ruleWorth 250 = .ok (.putfield 201, 3) := by decide +kernel
theorem dX12_ruleWorth_253 : decode cX12_ruleWorth 253 = .ok (.goto 25, 3) := by decide +kernel
theorem dX12_ruleWorth_256 : decode cX12_ruleWorth 256 = .ok (.iload 4, 2) := by decide +kernel
theorem dX12_ruleWorth_258 : decode cX12_ruleWorth 258 = .ok (.bipush 40, 2) := by decide +kernel
theorem dX12_ruleWorth_260 : decode cX12_ruleWorth 260 = .ok (.if_icmp .eq 12, 3) := by decide +kernel
theorem dX12_ruleWorth_263 : decode cX12_ruleWorth 263 = .ok (.aload_n 0, 1) := by decide +kernel
theorem dX12_ruleWorth_264 : decode cX12_ruleWorth 264 = .ok (.iload 4, 2) := by decide +kernel
theorem dX12_ruleWorth_266 : decode cX12_ruleWorth 266 = .ok (.invokestatic 207, 3) := by decide +kernel
theorem dX12_ruleWorth_269 : decode cX12_ruleWorth 269 = .ok (.invokevirtual 223, 3) := by decide +kernel
theorem dX12_ruleWorth_272 : decode cX12_ruleWorth 272 = .ok (.aload_n 0, 1) := by decide +kernel
theorem dX12_ruleWorth_273 : decode cX12_ruleWorth 273 = .ok (.iload 4, 2) := by decide +kernel
theorem dX12_ruleWorth_275 : decode cX12_ruleWorth 275 = .ok (.invokevirtual 226, 3) := by decide +kernel
theorem dX12_ruleWorth_278 : decode cX12_ruleWorth 278 = .ok (.goto (-263), 3) := by decide +kernel
theorem dX12_ruleWorth_281 : decode cX12_ruleWorth 281 = .ok (.aload_n 0, 1) := by decide +kernel
theorem dX12_ruleWorth_282 : decode cX12_ruleWorth 282 = .ok (.iconst 1, 1) := by decide +kernel
theorem dX12_ruleWorth_283 : decode cX12_ruleWorth 283 = .ok (.invokevirtual 223, 3) := by decide +kernel
theorem dX12_ruleWorth_286 : decode cX12_ruleWorth 286 = .ok (.aload_n 0, 1) := by decide +kernel
theorem dX12_ruleWorth_287 : decode cX12_ruleWorth 287 = .ok (.getfield 50, 3) := by decide +kernel
theorem dX12_ruleWorth_290 : decode cX12_ruleWorth 290 = .ok (.iconst 0, 1) := by decide +kernel
theorem dX12_ruleWorth_291 : decode cX12_ruleWorth 291 = .ok (.iaload, 1) := by decide +kernel
theorem dX12_ruleWorth_292 : decode cX12_ruleWorth 292 = .ok (.ireturn, 1) := by decide +kernel
theorem dX12_findLacks_0 : decode cX12_findLacks 0 = .ok (.iconst 0, 1) := by decide +kernel
theorem dX12_findLacks_1 : decode cX12_findLacks 1 = .ok (.istore_n 3, 1) := by decide +kernel
theorem dX12_findLacks_2 : decode cX12_findLacks 2 = .ok (.iload_n 3, 1) := by decide +kernel
theorem dX12_findLacks_3 : decode cX12_findLacks 3 = .ok (.iconst 4, 1) := by decide +kernel
theorem dX12_findLacks_4 : decode cX12_findLacks 4 = .ok (.if_icmp .ge 99, 3) := by decide +kernel
theorem dX12_findLacks_7 : decode cX12_findLacks 7 = .ok (.aload_n 0, 1) := by decide +kernel
theorem dX12_findLacks_8 : decode cX12_findLacks 8 = .ok (.iload_n 3, 1) := by decide +kernel
theorem dX12_findLacks_9 : decode cX12_findLacks 9 = .ok (.invokevirtual 117, 3) := by decide +kernel
theorem dX12_findLacks_12 : decode cX12_findLacks 12 = .ok (.ifCond .eq 47, 3) := by decide +kernel
theorem dX12_findLacks_15 : decode cX12_findLacks 15 = .ok (.iload_n 1, 1) := by decide +kernel
theorem dX12_findLacks_16 : decode cX12_findLacks 16 = .ok (.iload_n 3, 1) := by decide +kernel
theorem dX12_findLacks_17 : decode cX12_findLacks 17 = .ok (.invokestatic 155, 3) := by decide +kernel
theorem dX12_findLacks_20 : decode cX12_findLacks 20 = .ok (.aload_n 0, 1) := by decide +kernel
theorem dX12_findLacks_21 : decode cX12_findLacks 21 = .ok (.getfield 13, 3) := by decide +kernel
theorem dX12_findLacks_24 : decode cX12_findLacks 24 = .ok (.bipush 40, 2) := by decide +kernel
theorem dX12_findLacks_26 : decode cX12_findLacks 26 = .ok (.iaload, 1) := by decide +kernel
theorem dX12_findLacks_27 : decode cX12_findLacks 27 = .ok (.imul, 1) := by decide +kernel
theorem dX12_findLacks_28 : decode cX12_findLacks 28 = .ok (.aload_n 0, 1) := by decide +kernel
theorem dX12_findLacks_29 : decode cX12_findLacks 29 = .ok (.getfield 13, 3) := by decide +kernel
theorem dX12_findLacks_32 : decode cX12_findLacks 32 = .ok (.bipush 6, 2) := by decide +kernel
theorem dX12_findLacks_34 : decode cX12_findLacks 34 = .ok (.iload_n 3, 1) := by decide +kernel
theorem dX12_findLacks_35 : decode cX12_findLacks 35 = .ok (.imul, 1) := by decide +kernel
theorem dX12_findLacks_36 : decode cX12_findLacks 36 = .ok (.iaload, 1) := by decide +kernel
theorem dX12_findLacks_37 : decode cX12_findLacks 37 = .ok (.isub, 1) := by decide +kernel
theorem dX12_findLacks_38 : decode cX12_findLacks 38 = .ok (.iload_n 2, 1) := by decide +kernel
theorem dX12_findLacks_39 : decode cX12_findLacks 39 = .ok (.iload_n 3, 1) := by decide +kernel
theorem dX12_findLacks_40 : decode cX12_findLacks 40 = .ok (.ishr, 1) := by decide +kernel
theorem dX12_findLacks_41 : decode cX12_findLacks 41 = .ok (.iconst 1, 1) := by decide +kernel
theorem dX12_findLacks_42 : decode cX12_findLacks 42 = .ok (.iand, 1) := by decide +kernel
theorem dX12_findLacks_43 : decode cX12_findLacks 43 = .ok (.aload_n 0, 1) := by decide +kernel
theorem dX12_findLacks_44 : decode cX12_findLacks 44 = .ok (.getfield 13, 3) := by decide +kernel
theorem dX12_findLacks_47 : decode cX12_findLacks 47 = .ok (.bipush 6, 2) := by decide +kernel
theorem dX12_findLacks_49 : decode cX12_findLacks 49 = .ok (.iload_n 3, 1) := by decide +kernel
theorem dX12_findLacks_50 : decode cX12_findLacks 50 = .ok (.imul, 1) := by decide +kernel
theorem dX12_findLacks_51 : decode cX12_findLacks 51 = .ok (.iconst 1, 1) := by decide +kernel
theorem dX12_findLacks_52 : decode cX12_findLacks 52 = .ok (.iadd, 1) := by decide +kernel
theorem dX12_findLacks_53 : decode cX12_findLacks 53 = .ok (.iaload, 1) := by decide +kernel
theorem dX12_findLacks_54 : decode cX12_findLacks 54 = .ok (.imul, 1) := by decide +kernel
theorem dX12_findLacks_55 : decode cX12_findLacks 55 = .ok (.isub, 1) := by decide +kernel
theorem dX12_findLacks_56 : decode cX12_findLacks 56 = .ok (.goto 4, 3) := by decide +kernel
theorem dX12_findLacks_59 : decode cX12_findLacks 59 = .ok (.iconst 0, 1) := by decide +kernel
theorem dX12_findLacks_60 : decode cX12_findLacks 60 = .ok (.istore 4, 2) := by decide +kernel
theorem dX12_findLacks_62 : decode cX12_findLacks 62 = .ok (.aload_n 0, 1) := by decide +kernel
theorem dX12_findLacks_63 : decode cX12_findLacks 63 = .ok (.getfield 53, 3) := by decide +kernel
theorem dX12_findLacks_66 : decode cX12_findLacks 66 = .ok (.iload_n 3, 1) := by decide +kernel
theorem dX12_findLacks_67 : decode cX12_findLacks 67 = .ok (.iload 4, 2) := by decide +kernel
theorem dX12_findLacks_69 : decode cX12_findLacks 69 = .ok (.ifCond .le 8, 3) := by decide +kernel
theorem dX12_findLacks_72 : decode cX12_findLacks 72 = .ok (.iload 4, 2) := by decide +kernel
theorem dX12_findLacks_74 : decode cX12_findLacks 74 = .ok (.goto 4, 3) := by decide +kernel
theorem dX12_findLacks_77 : decode cX12_findLacks 77 = .ok (.iconst 0, 1) := by decide +kernel
theorem dX12_findLacks_78 : decode cX12_findLacks 78 = .ok (.iastore, 1) := by decide +kernel
theorem dX12_findLacks_79 : decode cX12_findLacks 79 = .ok (.aload_n 0, 1) := by decide +kernel
theorem dX12_findLacks_80 : decode cX12_findLacks 80 = .ok (.getfield 56, 3) := by decide +kernel
theorem dX12_findLacks_83 : decode cX12_findLacks 83 = .ok (.iload_n 3, 1) := by decide +kernel
theorem dX12_findLacks_84 : decode cX12_findLacks 84 = .ok (.iload 4, 2) := by decide +kernel
theorem dX12_findLacks_86 : decode cX12_findLacks 86 = .ok (.ifCond .ge 9, 3) := by decide +kernel
theorem dX12_findLacks_89 : decode cX12_findLacks 89 = .ok (.iload 4, 2) := by decide +kernel
theorem dX12_findLacks_91 : decode cX12_findLacks 91 = .ok (.ineg, 1) := by decide +kernel
theorem dX12_findLacks_92 : decode cX12_findLacks 92 = .ok (.goto 4, 3) := by decide +kernel
theorem dX12_findLacks_95 : decode cX12_findLacks 95 = .ok (.iconst 0, 1) := by decide +kernel
theorem dX12_findLacks_96 : decode cX12_findLacks 96 = .ok (.iastore, 1) := by decide +kernel
theorem dX12_findLacks_97 : decode cX12_findLacks 97 = .ok (.iinc 3 1, 3) := by decide +kernel
theorem dX12_findLacks_100 : decode cX12_findLacks 100 = .ok (.goto (-98), 3) := by decide +kernel
theorem dX12_findLacks_103 : decode cX12_findLacks 103 = .ok (.return_, 1) := by decide +kernel
theorem dX12_least_0 : decode cX12_least 0 = .ok (.iload_n 0, 1) := by decide +kernel
theorem dX12_least_1 : decode cX12_least 1 = .ok (.iload_n 1, 1) := by decide +kernel
theorem dX12_least_2 : decode cX12_least 2 = .ok (.if_icmp .ge 7, 3) := by decide +kernel
theorem dX12_least_5 : decode cX12_least 5 = .ok (.iload_n 0, 1) := by decide +kernel
theorem dX12_least_6 : decode cX12_least 6 = .ok (.goto 4, 3) := by decide +kernel
theorem dX12_least_9 : decode cX12_least 9 = .ok (.iload_n 1, 1) := by decide +kernel
theorem dX12_least_10 : decode cX12_least 10 = .ok (.ireturn, 1) := by decide +kernel
theorem dX12_worth_0 : decode cX12_worth 0 = .ok (.iconst 0, 1) := by decide +kernel
theorem dX12_worth_1 : decode cX12_worth 1 = .ok (.istore_n 1, 1) := by decide +kernel
theorem dX12_worth_2 : decode cX12_worth 2 = .ok (.iconst 0, 1) := by decide +kernel
theorem dX12_worth_3 : decode cX12_worth 3 = .ok (.istore_n 2, 1) := by decide +kernel
theorem dX12_worth_4 : decode cX12_worth 4 = .ok (.iload_n 2, 1) := by decide +kernel
theorem dX12_worth_5 : decode cX12_worth 5 = .ok (.iconst 4, 1) := by decide +kernel
theorem dX12_worth_6 : decode cX12_worth 6 = .ok (.if_icmp .ge 153, 3) := by decide +kernel
theorem dX12_worth_9 : decode cX12_worth 9 = .ok (.aload_n 0, 1) := by decide +kernel
theorem dX12_worth_10 : decode cX12_worth 10 = .ok (.getfield 56, 3) := by decide +kernel
theorem dX12_worth_13 : decode cX12_worth 13 = .ok (.iload_n 2, 1) := by decide +kernel
theorem dX12_worth_14 : decode cX12_worth 14 = .ok (.iaload, 1) := by decide +kernel
theorem dX12_worth_15 : decode cX12_worth 15 = .ok (.ifCond .ne 6, 3) := by decide +kernel
theorem dX12_worth_18 : decode cX12_worth 18 = .ok (.goto 135, 3) := by decide +kernel
theorem dX12_worth_21 : decode cX12_worth 21 = .ok (.aload_n 0, 1) := by decide +kernel
theorem dX12_worth_22 : decode cX12_worth 22 = .ok (.getfield 13, 3) := by decide +kernel
theorem dX12_worth_25 : decode cX12_worth 25 = .ok (.bipush 41, 2) := by decide +kernel
theorem dX12_worth_27 : decode cX12_worth 27 = .ok (.iaload, 1) := by decide +kernel
theorem dX12_worth_28 : decode cX12_worth 28 = .ok (.istore_n 3, 1) := by decide +kernel
theorem dX12_worth_29 : decode cX12_worth 29 = .ok (.iconst 0, 1) := by decide +kernel
theorem dX12_worth_30 : decode cX12_worth 30 = .ok (.istore 4, 2) := by decide +kernel
theorem dX12_worth_32 : decode cX12_worth 32 = .ok (.iload 4, 2) := by decide +kernel
theorem dX12_worth_34 : decode cX12_worth 34 = .ok (.iconst 4, 1) := by decide +kernel
theorem dX12_worth_35 : decode cX12_worth 35 = .ok (.if_icmp .ge 46, 3) := by decide +kernel
theorem dX12_worth_38 : decode cX12_worth 38 = .ok (.aload_n 0, 1) := by decide +kernel
theorem dX12_worth_39 : decode cX12_worth 39 = .ok (.getfield 53, 3) := by decide +kernel
theorem dX12_worth_42 : decode cX12_worth 42 = .ok (.iload 4, 2) := by decide +kernel
theorem dX12_worth_44 : decode cX12_worth 44 = .ok (.iaload, 1) := by decide +kernel
theorem dX12_worth_45 : decode cX12_worth 45 = .ok (.ifCond .le 30, 3) := by decide +kernel
theorem dX12_worth_48 : decode cX12_worth 48 = .ok (.iload_n 3, 1) := by decide +kernel
theorem dX12_worth_49 : decode cX12_worth 49 = .ok (.aload_n 0, 1) := by decide +kernel
theorem dX12_worth_50 : decode cX12_worth 50 = .ok (.getfield 59, 3) := by decide +kernel
theorem dX12_worth_53 : decode cX12_worth 53 = .ok (.iload 4, 2) := by decide +kernel
theorem dX12_worth_55 : decode cX12_worth 55 = .ok (.iaload, 1) := by decide +kernel
theorem dX12_worth_56 : decode cX12_worth 56 = .ok (.aload_n 0, 1) := by decide +kernel
theorem dX12_worth_57 : decode cX12_worth 57 = .ok (.getfield 13, 3) := by decide +kernel
theorem dX12_worth_60 : decode cX12_worth 60 = .ok (.bipush 24, 2) := by decide +kernel
theorem dX12_worth_62 : decode cX12_worth 62 = .ok (.iconst 4, 1) := by decide +kernel
theorem dX12_worth_63 : decode cX12_worth 63 = .ok (.iload 4, 2) := by decide +kernel
theorem dX12_worth_65 : decode cX12_worth 65 = .ok (.imul, 1) := by decide +kernel
theorem dX12_worth_66 : decode cX12_worth 66 = .ok (.iadd, 1) := by decide +kernel
theorem dX12_worth_67 : decode cX12_worth 67 = .ok (.iload_n 2, 1) := by decide +kernel
theorem dX12_worth_68 : decode cX12_worth 68 = .ok (.iadd, 1) := by decide +kernel
theorem dX12_worth_69 : decode cX12_worth 69 = .ok (.iaload, 1) := by decide +kernel
theorem dX12_worth_70 : decode cX12_worth 70 = .ok (.iadd, 1) := by decide +kernel
theorem dX12_worth_71 : decode cX12_worth 71 = .ok (.invokestatic 229, 3) := by decide +kernel
theorem dX12_worth_74 : decode cX12_worth 74 = .ok (.istore_n 3, 1) := by decide +kernel
theorem dX12_worth_75 : decode cX12_worth 75 = .ok (.iinc 4 1, 3) := by decide +kernel
theorem dX12_worth_78 : decode cX12_worth 78 = .ok (.goto (-46), 3) := by decide +kernel
theorem dX12_worth_81 : decode cX12_worth 81 = .ok (.aload_n 0, 1) := by decide +kernel
theorem dX12_worth_82 : decode cX12_worth 82 = .ok (.getfield 13, 3) := by decide +kernel
theorem dX12_worth_85 : decode cX12_worth 85 = .ok (.bipush 6, 2) := by decide +kernel
theorem dX12_worth_87 : decode cX12_worth 87 = .ok (.iload_n 2, 1) := by decide +kernel
theorem dX12_worth_88 : decode cX12_worth 88 = .ok (.imul, 1) := by decide +kernel
theorem dX12_worth_89 : decode cX12_worth 89 = .ok (.iconst 3, 1) := by decide +kernel
theorem dX12_worth_90 : decode cX12_worth 90 = .ok (.iadd, 1) := by decide +kernel
theorem dX12_worth_91 : decode cX12_worth 91 = .ok (.iaload, 1) := by decide +kernel
theorem dX12_worth_92 : decode cX12_worth 92 = .ok (.istore 4, 2) := by decide +kernel
theorem dX12_worth_94 : decode cX12_worth 94 = .ok (.aload_n 0, 1) := by decide +kernel
theorem dX12_worth_95 : decode cX12_worth 95 = .ok (.getfield 56, 3) := by decide +kernel
theorem dX12_worth_98 : decode cX12_worth 98 = .ok (.iload_n 2, 1) := by decide +kernel
theorem dX12_worth_99 : decode cX12_worth 99 = .ok (.iaload, 1) := by decide +kernel
theorem dX12_worth_100 : decode cX12_worth 100 = .ok (.aload_n 0, 1) := by decide +kernel
theorem dX12_worth_101 : decode cX12_worth 101 = .ok (.getfield 13, 3) := by decide +kernel
theorem dX12_worth_104 : decode cX12_worth 104 = .ok (.bipush 6, 2) := by decide +kernel
theorem dX12_worth_106 : decode cX12_worth 106 = .ok (.iload_n 2, 1) := by decide +kernel
theorem dX12_worth_107 : decode cX12_worth 107 = .ok (.imul, 1) := by decide +kernel
theorem dX12_worth_108 : decode cX12_worth 108 = .ok (.iconst 4, 1) := by decide +kernel
theorem dX12_worth_109 : decode cX12_worth 109 = .ok (.iadd, 1) := by decide +kernel
theorem dX12_worth_110 : decode cX12_worth 110 = .ok (.iaload, 1) := by decide +kernel
theorem dX12_worth_111 : decode cX12_worth 111 = .ok (.isub, 1) := by decide +kernel
theorem dX12_worth_112 : decode cX12_worth 112 = .ok (.istore 5, 2) := by decide +kernel
theorem dX12_worth_114 : decode cX12_worth 114 = .ok (.iload_n 1, 1) := by decide +kernel
theorem dX12_worth_115 : decode cX12_worth 115 = .ok (.iload_n 3, 1) := by decide +kernel
theorem dX12_worth_116 : decode cX12_worth 116 = .ok (.iload 4, 2) := by decide +kernel
theorem dX12_worth_118 : decode cX12_worth 118 = .ok (.invokestatic 229, 3) := by decide +kernel
theorem dX12_worth_121 : decode cX12_worth 121 = .ok (.aload_n 0, 1) := by decide +kernel
theorem dX12_worth_122 : decode cX12_worth 122 = .ok (.getfield 56, 3) := by decide +kernel
theorem dX12_worth_125 : decode cX12_worth 125 = .ok (.iload_n 2, 1) := by decide +kernel
theorem dX12_worth_126 : decode cX12_worth 126 = .ok (.iaload, 1) := by decide +kernel
theorem dX12_worth_127 : decode cX12_worth 127 = .ok (.imul, 1) := by decide +kernel
theorem dX12_worth_128 : decode cX12_worth 128 = .ok (.iload_n 3, 1) := by decide +kernel
theorem dX12_worth_129 : decode cX12_worth 129 = .ok (.iload 4, 2) := by decide +kernel
theorem dX12_worth_131 : decode cX12_worth 131 = .ok (.if_icmp .le 18, 3) := by decide +kernel
theorem dX12_worth_134 : decode cX12_worth 134 = .ok (.iload 5, 2) := by decide +kernel
theorem dX12_worth_136 : decode cX12_worth 136 = .ok (.ifCond .le 13, 3) := by decide +kernel
theorem dX12_worth_139 : decode cX12_worth 139 = .ok (.iload_n 3, 1) := by decide +kernel
theorem dX12_worth_140 : decode cX12_worth 140 = .ok (.iload 4, 2) := by decide +kernel
theorem dX12_worth_142 : decode cX12_worth 142 = .ok (.isub, 1) := by decide +kernel
theorem dX12_worth_143 : decode cX12_worth 143 = .ok (.iload 5, 2) := by decide +kernel
theorem dX12_worth_145 : decode cX12_worth 145 = .ok (.imul, 1) := by decide +kernel
theorem dX12_worth_146 : decode cX12_worth 146 = .ok (.goto 4, 3) := by decide +kernel
theorem dX12_worth_149 : decode cX12_worth 149 = .ok (.iconst 0, 1) := by decide +kernel
theorem dX12_worth_150 : decode cX12_worth 150 = .ok (.iadd, 1) := by decide +kernel
theorem dX12_worth_151 : decode cX12_worth 151 = .ok (.iadd, 1) := by decide +kernel
theorem dX12_worth_152 : decode cX12_worth 152 = .ok (.istore_n 1, 1) := by decide +kernel
theorem dX12_worth_153 : decode cX12_worth 153 = .ok (.iinc 2 1, 3) := by decide +kernel
theorem dX12_worth_156 : decode cX12_worth 156 = .ok (.goto (-152), 3) := by decide +kernel
theorem dX12_worth_159 : decode cX12_worth 159 = .ok (.iconst 0, 1) := by decide +kernel
theorem dX12_worth_160 : decode cX12_worth 160 = .ok (.istore_n 2, 1) := by decide +kernel
theorem dX12_worth_161 : decode cX12_worth 161 = .ok (.iload_n 2, 1) := by decide +kernel
theorem dX12_worth_162 : decode cX12_worth 162 = .ok (.iconst 4, 1) := by decide +kernel
theorem dX12_worth_163 : decode cX12_worth 163 = .ok (.if_icmp .ge 25, 3) := by decide +kernel
theorem dX12_worth_166 : decode cX12_worth 166 = .ok (.iload_n 1, 1) := by decide +kernel
theorem dX12_worth_167 : decode cX12_worth 167 = .ok (.aload_n 0, 1) := by decide +kernel
theorem dX12_worth_168 : decode cX12_worth 168 = .ok (.getfield 59, 3) := by decide +kernel
theorem dX12_worth_171 : decode cX12_worth 171 = .ok (.iload_n 2, 1) := by decide +kernel
theorem dX12_worth_172 : decode cX12_worth 172 = .ok (.iaload, 1) := by decide +kernel
theorem dX12_worth_173 : decode cX12_worth 173 = .ok (.aload_n 0, 1) := by decide +kernel
theorem dX12_worth_174 : decode cX12_worth 174 = .ok (.getfield 53, 3) := by decide +kernel
theorem dX12_worth_177 : decode cX12_worth 177 = .ok (.iload_n 2, 1) := by decide +kernel
theorem dX12_worth_178 : decode cX12_worth 178 = .ok (.iaload, 1) := by decide +kernel
theorem dX12_worth_179 : decode cX12_worth 179 = .ok (.imul, 1) := by decide +kernel
theorem dX12_worth_180 : decode cX12_worth 180 = .ok (.isub, 1) := by decide +kernel
theorem dX12_worth_181 : decode cX12_worth 181 = .ok (.istore_n 1, 1) := by decide +kernel
theorem dX12_worth_182 : decode cX12_worth 182 = .ok (.iinc 2 1, 3) := by decide +kernel
theorem dX12_worth_185 : decode cX12_worth 185 = .ok (.goto (-24), 3) := by decide +kernel
theorem dX12_worth_188 : decode cX12_worth 188 = .ok (.iload_n 1, 1) := by decide +kernel
theorem dX12_worth_189 : decode cX12_worth 189 = .ok (.ireturn, 1) := by decide +kernel
theorem dX12_priceOf_0 : decode cX12_priceOf 0 = .ok (.iload_n 2, 1) := by decide +kernel
theorem dX12_priceOf_1 : decode cX12_priceOf 1 = .ok (.bipush 8, 2) := by decide +kernel
theorem dX12_priceOf_3 : decode cX12_priceOf 3 = .ok (.if_icmp .ne 5, 3) := by decide +kernel
theorem dX12_priceOf_6 : decode cX12_priceOf 6 = .ok (.iconst 0, 1) := by decide +kernel
theorem dX12_priceOf_7 : decode cX12_priceOf 7 = .ok (.ireturn, 1) := by decide +kernel
theorem dX12_priceOf_8 : decode cX12_priceOf 8 = .ok (.iload_n 2, 1) := by decide +kernel
theorem dX12_priceOf_9 : decode cX12_priceOf 9 = .ok (.iconst 2, 1) := by decide +kernel
theorem dX12_priceOf_10 : decode cX12_priceOf 10 = .ok (.idiv, 1) := by decide +kernel
theorem dX12_priceOf_11 : decode cX12_priceOf 11 = .ok (.istore_n 3, 1) := by decide +kernel
theorem dX12_priceOf_12 : decode cX12_priceOf 12 = .ok (.aload_n 0, 1) := by decide +kernel
theorem dX12_priceOf_13 : decode cX12_priceOf 13 = .ok (.getfield 56, 3) := by decide +kernel
theorem dX12_priceOf_16 : decode cX12_priceOf 16 = .ok (.iload_n 3, 1) := by decide +kernel
theorem dX12_priceOf_17 : decode cX12_priceOf 17 = .ok (.iaload, 1) := by decide +kernel
theorem dX12_priceOf_18 : decode cX12_priceOf 18 = .ok (.ifCond .ne 5, 3) := by decide +kernel
theorem dX12_priceOf_21 : decode cX12_priceOf 21 = .ok (.iconst 0, 1) := by decide +kernel
theorem dX12_priceOf_22 : decode cX12_priceOf 22 = .ok (.ireturn, 1) := by decide +kernel
theorem dX12_priceOf_23 : decode cX12_priceOf 23 = .ok (.iload_n 2, 1) := by decide +kernel
theorem dX12_priceOf_24 : decode cX12_priceOf 24 = .ok (.iconst 2, 1) := by decide +kernel
theorem dX12_priceOf_25 : decode cX12_priceOf 25 = .ok (.irem, 1) := by decide +kernel
theorem dX12_priceOf_26 : decode cX12_priceOf 26 = .ok (.ifCond .ne 13, 3) := by decide +kernel
theorem dX12_priceOf_29 : decode cX12_priceOf 29 = .ok (.aload_n 0, 1) := by decide +kernel
theorem dX12_priceOf_30 : decode cX12_priceOf 30 = .ok (.getfield 13, 3) := by decide +kernel
theorem dX12_priceOf_33 : decode cX12_priceOf 33 = .ok (.bipush 41, 2) := by decide +kernel
theorem dX12_priceOf_35 : decode cX12_priceOf 35 = .ok (.iaload, 1) := by decide +kernel
theorem dX12_priceOf_36 : decode cX12_priceOf 36 = .ok (.goto 14, 3) := by decide +kernel
theorem dX12_priceOf_39 : decode cX12_priceOf 39 = .ok (.aload_n 0, 1) := by decide +kernel
theorem dX12_priceOf_40 : decode cX12_priceOf 40 = .ok (.getfield 13, 3) := by decide +kernel
theorem dX12_priceOf_43 : decode cX12_priceOf 43 = .ok (.bipush 6, 2) := by decide +kernel
theorem dX12_priceOf_45 : decode cX12_priceOf 45 = .ok (.iload_n 3, 1) := by decide +kernel
theorem dX12_priceOf_46 : decode cX12_priceOf 46 = .ok (.imul, 1) := by decide +kernel
theorem dX12_priceOf_47 : decode cX12_priceOf 47 = .ok (.iconst 3, 1) := by decide +kernel
theorem dX12_priceOf_48 : decode cX12_priceOf 48 = .ok (.iadd, 1) := by decide +kernel
theorem dX12_priceOf_49 : decode cX12_priceOf 49 = .ok (.iaload, 1) := by decide +kernel
theorem dX12_priceOf_50 : decode cX12_priceOf 50 = .ok (.aload_n 0, 1) := by decide +kernel
theorem dX12_priceOf_51 : decode cX12_priceOf 51 = .ok (.getfield 13, 3) := by decide +kernel
theorem dX12_priceOf_54 : decode cX12_priceOf 54 = .ok (.bipush 24, 2) := by decide +kernel
theorem dX12_priceOf_56 : decode cX12_priceOf 56 = .ok (.iconst 4, 1) := by decide +kernel
theorem dX12_priceOf_57 : decode cX12_priceOf 57 = .ok (.iload_n 1, 1) := by decide +kernel
theorem dX12_priceOf_58 : decode cX12_priceOf 58 = .ok (.imul, 1) := by decide +kernel
theorem dX12_priceOf_59 : decode cX12_priceOf 59 = .ok (.iadd, 1) := by decide +kernel
theorem dX12_priceOf_60 : decode cX12_priceOf 60 = .ok (.iload_n 3, 1) := by decide +kernel
theorem dX12_priceOf_61 : decode cX12_priceOf 61 = .ok (.iadd, 1) := by decide +kernel
theorem dX12_priceOf_62 : decode cX12_priceOf 62 = .ok (.iaload, 1) := by decide +kernel
theorem dX12_priceOf_63 : decode cX12_priceOf 63 = .ok (.isub, 1) := by decide +kernel
theorem dX12_priceOf_64 : decode cX12_priceOf 64 = .ok (.istore 4, 2) := by decide +kernel
theorem dX12_priceOf_66 : decode cX12_priceOf 66 = .ok (.iload 4, 2) := by decide +kernel
theorem dX12_priceOf_68 : decode cX12_priceOf 68 = .ok (.ifCond .le 8, 3) := by decide +kernel
theorem dX12_priceOf_71 : decode cX12_priceOf 71 = .ok (.iload 4, 2) := by decide +kernel
theorem dX12_priceOf_73 : decode cX12_priceOf 73 = .ok (.goto 4, 3) := by decide +kernel
theorem dX12_priceOf_76 : decode cX12_priceOf 76 = .ok (.iconst 0, 1) := by decide +kernel
theorem dX12_priceOf_77 : decode cX12_priceOf 77 = .ok (.ireturn, 1) := by decide +kernel
theorem dX12_tries_0 : decode cX12_tries 0 = .ok (.aload_n 0, 1) := by decide +kernel
theorem dX12_tries_1 : decode cX12_tries 1 = .ok (.invokevirtual 232, 3) := by decide +kernel
theorem dX12_tries_4 : decode cX12_tries 4 = .ok (.istore_n 1, 1) := by decide +kernel
theorem dX12_tries_5 : decode cX12_tries 5 = .ok (.iload_n 1, 1) := by decide +kernel
theorem dX12_tries_6 : decode cX12_tries 6 = .ok (.aload_n 0, 1) := by decide +kernel
theorem dX12_tries_7 : decode cX12_tries 7 = .ok (.getfield 235, 3) := by decide +kernel
theorem dX12_tries_10 : decode cX12_tries 10 = .ok (.if_icmp .le 8, 3) := by decide +kernel
theorem dX12_tries_13 : decode cX12_tries 13 = .ok (.aload_n 0, 1) := by decide +kernel
theorem dX12_tries_14 : decode cX12_tries 14 = .ok (.iload_n 1, 1) := by decide +kernel
theorem dX12_tries_15 : decode cX12_tries 15 = .ok (.putfield 235, 3) := by decide +kernel
theorem dX12_tries_18 : decode cX12_tries 18 = .ok (.return_, 1) := by decide +kernel
theorem dX12_triesTwo_0 : decode cX12_triesTwo 0 = .ok (.iconst 0, 1) := by decide +kernel
theorem dX12_triesTwo_1 : decode cX12_triesTwo 1 = .ok (.istore_n 3, 1) := by decide +kernel
theorem dX12_triesTwo_2 : decode cX12_triesTwo 2 = .ok (.iload_n 3, 1) := by decide +kernel
theorem dX12_triesTwo_3 : decode cX12_triesTwo 3 = .ok (.bipush 9, 2) := by decide +kernel
theorem dX12_triesTwo_5 : decode cX12_triesTwo 5 = .ok (.if_icmp .ge 138, 3) := by decide +kernel
theorem dX12_triesTwo_8 : decode cX12_triesTwo 8 = .ok (.aload_n 0, 1) := by decide +kernel
theorem dX12_triesTwo_9 : decode cX12_triesTwo 9 = .ok (.getfield 59, 3) := by decide +kernel
theorem dX12_triesTwo_12 : decode cX12_triesTwo 12 = .ok (.iload_n 1, 1) := by decide +kernel
theorem dX12_triesTwo_13 : decode cX12_triesTwo 13 = .ok (.aload_n 0, 1) := by decide +kernel
theorem dX12_triesTwo_14 : decode cX12_triesTwo 14 = .ok (.iload_n 1, 1) := by decide +kernel
theorem dX12_triesTwo_15 : decode cX12_triesTwo 15 = .ok (.iload_n 3, 1) := by decide +kernel
theorem dX12_triesTwo_16 : decode cX12_triesTwo 16 = .ok (.invokevirtual 238, 3) := by decide +kernel
theorem dX12_triesTwo_19 : decode cX12_triesTwo 19 = .ok (.iastore, 1) := by decide +kernel
theorem dX12_triesTwo_20 : decode cX12_triesTwo 20 = .ok (.iconst 0, 1) := by decide +kernel
theorem dX12_triesTwo_21 : decode cX12_triesTwo 21 = .ok (.istore 4, 2) := by decide +kernel
theorem dX12_triesTwo_23 : decode cX12_triesTwo 23 = .ok (.iload 4, 2) := by decide +kernel
theorem dX12_triesTwo_25 : decode cX12_triesTwo 25 = .ok (.bipush 9, 2) := by decide +kernel
theorem dX12_triesTwo_27 : decode cX12_triesTwo 27 = .ok (.if_icmp .ge 26, 3) := by decide +kernel
theorem dX12_triesTwo_30 : decode cX12_triesTwo 30 = .ok (.aload_n 0, 1) := by decide +kernel
theorem dX12_triesTwo_31 : decode cX12_triesTwo 31 = .ok (.getfield 59, 3) := by decide +kernel
theorem dX12_triesTwo_34 : decode cX12_triesTwo 34 = .ok (.iload_n 2, 1) := by decide +kernel
theorem dX12_triesTwo_35 : decode cX12_triesTwo 35 = .ok (.aload_n 0, 1) := by decide +kernel
theorem dX12_triesTwo_36 : decode cX12_triesTwo 36 = .ok (.iload_n 2, 1) := by decide +kernel
theorem dX12_triesTwo_37 : decode cX12_triesTwo 37 = .ok (.iload 4, 2) := by decide +kernel
theorem dX12_triesTwo_39 : decode cX12_triesTwo 39 = .ok (.invokevirtual 238, 3) := by decide +kernel
theorem dX12_triesTwo_42 : decode cX12_triesTwo 42 = .ok (.iastore, 1) := by decide +kernel
theorem dX12_triesTwo_43 : decode cX12_triesTwo 43 = .ok (.aload_n 0, 1) := by decide +kernel
theorem dX12_triesTwo_44 : decode cX12_triesTwo 44 = .ok (.invokevirtual 241, 3) := by decide +kernel
theorem dX12_triesTwo_47 : decode cX12_triesTwo 47 = .ok (.iinc 4 1, 3) := by decide +kernel
theorem dX12_triesTwo_50 : decode cX12_triesTwo 50 = .ok (.goto (-27), 3) := by decide +kernel
theorem dX12_triesTwo_53 : decode cX12_triesTwo 53 = .ok (.iconst 0, 1) := by decide +kernel
theorem dX12_triesTwo_54 : decode cX12_triesTwo 54 = .ok (.istore 4, 2) := by decide +kernel
theorem dX12_triesTwo_56 : decode cX12_triesTwo 56 = .ok (.iload 4, 2) := by decide +kernel
theorem dX12_triesTwo_58 : decode cX12_triesTwo 58 = .ok (.iconst 4, 1) := by decide +kernel
theorem dX12_triesTwo_59 : decode cX12_triesTwo 59 = .ok (.if_icmp .ge 78, 3) := by decide +kernel
theorem dX12_triesTwo_62 : decode cX12_triesTwo 62 = .ok (.aload_n 0, 1) := by decide +kernel
theorem dX12_triesTwo_63 : decode cX12_triesTwo 63 = .ok (.getfield 59, 3) := by decide +kernel
theorem dX12_triesTwo_66 : decode cX12_triesTwo 66 = .ok (.iload_n 1, 1) := by decide +kernel
theorem dX12_triesTwo_67 : decode cX12_triesTwo 67 = .ok (.iaload, 1) := by decide +kernel
theorem dX12_triesTwo_68 : decode cX12_triesTwo 68 = .ok (.aload_n 0, 1) := by decide +kernel
theorem dX12_triesTwo_69 : decode cX12_triesTwo 69 = .ok (.getfield 13, 3) := by decide +kernel
theorem dX12_triesTwo_72 : decode cX12_triesTwo 72 = .ok (.bipush 24, 2) := by decide +kernel
theorem dX12_triesTwo_74 : decode cX12_triesTwo 74 = .ok (.iconst 4, 1) := by decide +kernel
theorem dX12_triesTwo_75 : decode cX12_triesTwo 75 = .ok (.iload_n 1, 1) := by decide +kernel
theorem dX12_triesTwo_76 : decode cX12_triesTwo 76 = .ok (.imul, 1) := by decide +kernel
theorem dX12_triesTwo_77 : decode cX12_triesTwo 77 = .ok (.iadd, 1) := by decide +kernel
theorem dX12_triesTwo_78 : decode cX12_triesTwo 78 = .ok (.iload 4, 2) := by decide +kernel
theorem dX12_triesTwo_80 : decode cX12_triesTwo 80 = .ok (.iadd, 1) := by decide +kernel
theorem dX12_triesTwo_81 : decode cX12_triesTwo 81 = .ok (.iaload, 1) := by decide +kernel
theorem dX12_triesTwo_82 : decode cX12_triesTwo 82 = .ok (.iadd, 1) := by decide +kernel
theorem dX12_triesTwo_83 : decode cX12_triesTwo 83 = .ok (.aload_n 0, 1) := by decide +kernel
theorem dX12_triesTwo_84 : decode cX12_triesTwo 84 = .ok (.getfield 13, 3) := by decide +kernel
theorem dX12_triesTwo_87 : decode cX12_triesTwo 87 = .ok (.bipush 24, 2) := by decide +kernel
theorem dX12_triesTwo_89 : decode cX12_triesTwo 89 = .ok (.iconst 4, 1) := by decide +kernel
theorem dX12_triesTwo_90 : decode cX12_triesTwo 90 = .ok (.iload_n 2, 1) := by decide +kernel
theorem dX12_triesTwo_91 : decode cX12_triesTwo 91 = .ok (.imul, 1) := by decide +kernel
theorem dX12_triesTwo_92 : decode cX12_triesTwo 92 = .ok (.iadd, 1) := by decide +kernel
theorem dX12_triesTwo_93 : decode cX12_triesTwo 93 = .ok (.iload 4, 2) := by decide +kernel
theorem dX12_triesTwo_95 : decode cX12_triesTwo 95 = .ok (.iadd, 1) := by decide +kernel
theorem dX12_triesTwo_96 : decode cX12_triesTwo 96 = .ok (.iaload, 1) := by decide +kernel
theorem dX12_triesTwo_97 : decode cX12_triesTwo 97 = .ok (.isub, 1) := by decide +kernel
theorem dX12_triesTwo_98 : decode cX12_triesTwo 98 = .ok (.istore 5, 2) := by decide +kernel
theorem dX12_triesTwo_100 : decode cX12_triesTwo 100 = .ok (.aload_n 0, 1) := by decide +kernel
theorem dX12_triesTwo_101 : decode cX12_triesTwo 101 = .ok (.getfield 59, 3) := by decide +kernel
theorem dX12_triesTwo_104 : decode cX12_triesTwo 104 = .ok (.iload_n 2, 1) := by decide +kernel
theorem dX12_triesTwo_105 : decode cX12_triesTwo 105 = .ok (.iload 5, 2) := by decide +kernel
theorem dX12_triesTwo_107 : decode cX12_triesTwo 107 = .ok (.ifCond .le 8, 3) := by decide +kernel
theorem dX12_triesTwo_110 : decode cX12_triesTwo 110 = .ok (.iload 5, 2) := by decide +kernel
theorem dX12_triesTwo_112 : decode cX12_triesTwo 112 = .ok (.goto 4, 3) := by decide +kernel
theorem dX12_triesTwo_115 : decode cX12_triesTwo 115 = .ok (.iconst 0, 1) := by decide +kernel
theorem dX12_triesTwo_116 : decode cX12_triesTwo 116 = .ok (.iastore, 1) := by decide +kernel
theorem dX12_triesTwo_117 : decode cX12_triesTwo 117 = .ok (.aload_n 0, 1) := by decide +kernel
theorem dX12_triesTwo_118 : decode cX12_triesTwo 118 = .ok (.getfield 56, 3) := by decide +kernel
theorem dX12_triesTwo_121 : decode cX12_triesTwo 121 = .ok (.iload 4, 2) := by decide +kernel
theorem dX12_triesTwo_123 : decode cX12_triesTwo 123 = .ok (.iaload, 1) := by decide +kernel
theorem dX12_triesTwo_124 : decode cX12_triesTwo 124 = .ok (.ifCond .le 7, 3) := by decide +kernel
theorem dX12_triesTwo_127 : decode cX12_triesTwo 127 = .ok (.aload_n 0, 1) := by decide +kernel
theorem dX12_triesTwo_128 : decode cX12_triesTwo 128 = .ok (.invokevirtual 241, 3) := by decide +kernel
theorem dX12_triesTwo_131 : decode cX12_triesTwo 131 = .ok (.iinc 4 1, 3) := by decide +kernel
theorem dX12_triesTwo_134 : decode cX12_triesTwo 134 = .ok (.goto (-78), 3) := by decide +kernel
theorem dX12_triesTwo_137 : decode cX12_triesTwo 137 = .ok (.iinc 3 1, 3) := by decide +kernel
theorem dX12_triesTwo_140 : decode cX12_triesTwo 140 = .ok (.goto (-138), 3) := by decide +kernel
theorem dX12_triesTwo_143 : decode cX12_triesTwo 143 = .ok (.return_, 1) := by decide +kernel
theorem dX12_triesLevel_0 : decode cX12_triesLevel 0 = .ok (.iconst 0, 1) := by decide +kernel
theorem dX12_triesLevel_1 : decode cX12_triesLevel 1 = .ok (.istore_n 3, 1) := by decide +kernel
theorem dX12_triesLevel_2 : decode cX12_triesLevel 2 = .ok (.iload_n 3, 1) := by decide +kernel
theorem dX12_triesLevel_3 : decode cX12_triesLevel 3 = .ok (.iconst 4, 1) := by decide +kernel
theorem dX12_triesLevel_4 : decode cX12_triesLevel 4 = .ok (.if_icmp .ge 52, 3) := by decide +kernel
theorem dX12_triesLevel_7 : decode cX12_triesLevel 7 = .ok (.iload_n 2, 1) := by decide +kernel
theorem dX12_triesLevel_8 : decode cX12_triesLevel 8 = .ok (.aload_n 0, 1) := by decide +kernel
theorem dX12_triesLevel_9 : decode cX12_triesLevel 9 = .ok (.getfield 13, 3) := by decide +kernel
theorem dX12_triesLevel_12 : decode cX12_triesLevel 12 = .ok (.bipush 24, 2) := by decide +kernel
theorem dX12_triesLevel_14 : decode cX12_triesLevel 14 = .ok (.iconst 4, 1) := by decide +kernel
theorem dX12_triesLevel_15 : decode cX12_triesLevel 15 = .ok (.iload_n 3, 1) := by decide +kernel
theorem dX12_triesLevel_16 : decode cX12_triesLevel 16 = .ok (.imul, 1) := by decide +kernel
theorem dX12_triesLevel_17 : decode cX12_triesLevel 17 = .ok (.iadd, 1) := by decide +kernel
theorem dX12_triesLevel_18 : decode cX12_triesLevel 18 = .ok (.iload_n 1, 1) := by decide +kernel
theorem dX12_triesLevel_19 : decode cX12_triesLevel 19 = .ok (.iadd, 1) := by decide +kernel
theorem dX12_triesLevel_20 : decode cX12_triesLevel 20 = .ok (.iaload, 1) := by decide +kernel
theorem dX12_triesLevel_21 : decode cX12_triesLevel 21 = .ok (.isub, 1) := by decide +kernel
theorem dX12_triesLevel_22 : decode cX12_triesLevel 22 = .ok (.istore 4, 2) := by decide +kernel
theorem dX12_triesLevel_24 : decode cX12_triesLevel 24 = .ok (.aload_n 0, 1) := by decide +kernel
theorem dX12_triesLevel_25 : decode cX12_triesLevel 25 = .ok (.getfield 59, 3) := by decide +kernel
theorem dX12_triesLevel_28 : decode cX12_triesLevel 28 = .ok (.iload_n 3, 1) := by decide +kernel
theorem dX12_triesLevel_29 : decode cX12_triesLevel 29 = .ok (.aload_n 0, 1) := by decide +kernel
theorem dX12_triesLevel_30 : decode cX12_triesLevel 30 = .ok (.getfield 53, 3) := by decide +kernel
theorem dX12_triesLevel_33 : decode cX12_triesLevel 33 = .ok (.iload_n 3, 1) := by decide +kernel
theorem dX12_triesLevel_34 : decode cX12_triesLevel 34 = .ok (.iaload, 1) := by decide +kernel
theorem dX12_triesLevel_35 : decode cX12_triesLevel 35 = .ok (.ifCond .le 13, 3) := by decide +kernel
theorem dX12_triesLevel_38 : decode cX12_triesLevel 38 = .ok (.iload 4, 2) := by decide +kernel
theorem dX12_triesLevel_40 : decode cX12_triesLevel 40 = .ok (.ifCond .le 8, 3) := by decide +kernel
theorem dX12_triesLevel_43 : decode cX12_triesLevel 43 = .ok (.iload 4, 2) := by decide +kernel
theorem dX12_triesLevel_45 : decode cX12_triesLevel 45 = .ok (.goto 4, 3) := by decide +kernel
theorem dX12_triesLevel_48 : decode cX12_triesLevel 48 = .ok (.iconst 0, 1) := by decide +kernel
theorem dX12_triesLevel_49 : decode cX12_triesLevel 49 = .ok (.iastore, 1) := by decide +kernel
theorem dX12_triesLevel_50 : decode cX12_triesLevel 50 = .ok (.iinc 3 1, 3) := by decide +kernel
theorem dX12_triesLevel_53 : decode cX12_triesLevel 53 = .ok (.goto (-51), 3) := by decide +kernel
theorem dX12_triesLevel_56 : decode cX12_triesLevel 56 = .ok (.aload_n 0, 1) := by decide +kernel
theorem dX12_triesLevel_57 : decode cX12_triesLevel 57 = .ok (.invokevirtual 241, 3) := by decide +kernel
theorem dX12_triesLevel_60 : decode cX12_triesLevel 60 = .ok (.return_, 1) := by decide +kernel
theorem dX12_laterOf_0 : decode cX12_laterOf 0 = .ok (.aload_n 0, 1) := by decide +kernel
theorem dX12_laterOf_1 : decode cX12_laterOf 1 = .ok (.iload_n 1, 1) := by decide +kernel
theorem dX12_laterOf_2 : decode cX12_laterOf 2 = .ok (.iload_n 2, 1) := by decide +kernel
theorem dX12_laterOf_3 : decode cX12_laterOf 3 = .ok (.invokevirtual 244, 3) := by decide +kernel
theorem dX12_laterOf_6 : decode cX12_laterOf 6 = .ok (.iconst 0, 1) := by decide +kernel
theorem dX12_laterOf_7 : decode cX12_laterOf 7 = .ok (.istore_n 3, 1) := by decide +kernel
theorem dX12_laterOf_8 : decode cX12_laterOf 8 = .ok (.iconst 0, 1) := by decide +kernel
theorem dX12_laterOf_9 : decode cX12_laterOf 9 = .ok (.istore 4, 2) := by decide +kernel
theorem dX12_laterOf_11 : decode cX12_laterOf 11 = .ok (.iconst 0, 1) := by decide +kernel
theorem dX12_laterOf_12 : decode cX12_laterOf 12 = .ok (.istore 5, 2) := by decide +kernel
theorem dX12_laterOf_14 : decode cX12_laterOf 14 = .ok (.iload 5, 2) := by decide +kernel
theorem dX12_laterOf_16 : decode cX12_laterOf 16 = .ok (.iconst 4, 1) := by decide +kernel
theorem dX12_laterOf_17 : decode cX12_laterOf 17 = .ok (.if_icmp .ge 64, 3) := by decide +kernel
theorem dX12_laterOf_20 : decode cX12_laterOf 20 = .ok (.aload_n 0, 1) := by decide +kernel
theorem dX12_laterOf_21 : decode cX12_laterOf 21 = .ok (.getfield 59, 3) := by decide +kernel
theorem dX12_laterOf_24 : decode cX12_laterOf 24 = .ok (.iload 5, 2) := by decide +kernel
theorem dX12_laterOf_26 : decode cX12_laterOf 26 = .ok (.iconst 0, 1) := by decide +kernel
theorem dX12_laterOf_27 : decode cX12_laterOf 27 = .ok (.iastore, 1) := by decide +kernel
theorem dX12_laterOf_28 : decode cX12_laterOf 28 = .ok (.aload_n 0, 1) := by decide +kernel
theorem dX12_laterOf_29 : decode cX12_laterOf 29 = .ok (.getfield 53, 3) := by decide +kernel
theorem dX12_laterOf_32 : decode cX12_laterOf 32 = .ok (.iload 5, 2) := by decide +kernel
theorem dX12_laterOf_34 : decode cX12_laterOf 34 = .ok (.iaload, 1) := by decide +kernel
theorem dX12_laterOf_35 : decode cX12_laterOf 35 = .ok (.ifCond .le 20, 3) := by decide +kernel
theorem dX12_laterOf_38 : decode cX12_laterOf 38 = .ok (.aload_n 0, 1) := by decide +kernel
theorem dX12_laterOf_39 : decode cX12_laterOf 39 = .ok (.aload_n 0, 1) := by decide +kernel
theorem dX12_laterOf_40 : decode cX12_laterOf 40 = .ok (.getfield 248, 3) := by decide +kernel
theorem dX12_laterOf_43 : decode cX12_laterOf 43 = .ok (.putfield 251, 3) := by decide +kernel
theorem dX12_laterOf_46 : decode cX12_laterOf 46 = .ok (.aload_n 0, 1) := by decide +kernel
theorem dX12_laterOf_47 : decode cX12_laterOf 47 = .ok (.iload 5, 2) := by decide +kernel
theorem dX12_laterOf_49 : decode cX12_laterOf 49 = .ok (.putfield 248, 3) := by decide +kernel
theorem dX12_laterOf_52 : decode cX12_laterOf 52 = .ok (.iinc 3 1, 3) := by decide +kernel
theorem dX12_laterOf_55 : decode cX12_laterOf 55 = .ok (.iload 4, 2) := by decide +kernel
theorem dX12_laterOf_57 : decode cX12_laterOf 57 = .ok (.aload_n 0, 1) := by decide +kernel
theorem dX12_laterOf_58 : decode cX12_laterOf 58 = .ok (.getfield 56, 3) := by decide +kernel
theorem dX12_laterOf_61 : decode cX12_laterOf 61 = .ok (.iload 5, 2) := by decide +kernel
