theorem dX11_later_42 : decode cX11_later 42 = .ok (.invokevirtual 173, 3) := by decide +kernel
theorem dX11_later_45 : decode cX11_later 45 = .ok (.isub, 1) := by decide +kernel
theorem dX11_later_46 : decode cX11_later 46 = .ok (.ireturn, 1) := by decide +kernel
theorem dX11_cost_0 : decode cX11_cost 0 = .ok (.aload_n 0, 1) := by decide +kernel
theorem dX11_cost_1 : decode cX11_cost 1 = .ok (.getfield 12, 3) := by decide +kernel
theorem dX11_cost_4 : decode cX11_cost 4 = .ok (.iload_n 1, 1) := by decide +kernel
theorem dX11_cost_5 : decode cX11_cost 5 = .ok (.invokevirtual 163, 3) := by decide +kernel
theorem dX11_cost_8 : decode cX11_cost 8 = .ok (.ifCond .eq 14, 3) := by decide +kernel
theorem dX11_cost_11 : decode cX11_cost 11 = .ok (.aload_n 0, 1) := by decide +kernel
theorem dX11_cost_12 : decode cX11_cost 12 = .ok (.getfield 12, 3) := by decide +kernel
theorem dX11_cost_15 : decode cX11_cost 15 = .ok (.iload_n 2, 1) := by decide +kernel
theorem dX11_cost_16 : decode cX11_cost 16 = .ok (.invokevirtual 166, 3) := by decide +kernel
theorem dX11_cost_19 : decode cX11_cost 19 = .ok (.ifCond .ne 9, 3) := by decide +kernel
theorem dX11_cost_22 : decode cX11_cost 22 = .ok (.aload_n 0, 1) := by decide +kernel
theorem dX11_cost_23 : decode cX11_cost 23 = .ok (.iconst (-1), 1) := by decide +kernel
theorem dX11_cost_24 : decode cX11_cost 24 = .ok (.invokevirtual 80, 3) := by decide +kernel
theorem dX11_cost_27 : decode cX11_cost 27 = .ok (.ireturn, 1) := by decide +kernel
theorem dX11_cost_28 : decode cX11_cost 28 = .ok (.aload_n 0, 1) := by decide +kernel
theorem dX11_cost_29 : decode cX11_cost 29 = .ok (.getfield 60, 3) := by decide +kernel
theorem dX11_cost_32 : decode cX11_cost 32 = .ok (.iload_n 1, 1) := by decide +kernel
theorem dX11_cost_33 : decode cX11_cost 33 = .ok (.iload_n 2, 1) := by decide +kernel
theorem dX11_cost_34 : decode cX11_cost 34 = .ok (.invokevirtual 169, 3) := by decide +kernel
theorem dX11_cost_37 : decode cX11_cost 37 = .ok (.ireturn, 1) := by decide +kernel
theorem dX11_worst_0 : decode cX11_worst 0 = .ok (.aload_n 0, 1) := by decide +kernel
theorem dX11_worst_1 : decode cX11_worst 1 = .ok (.getfield 12, 3) := by decide +kernel
theorem dX11_worst_4 : decode cX11_worst 4 = .ok (.iload_n 1, 1) := by decide +kernel
theorem dX11_worst_5 : decode cX11_worst 5 = .ok (.invokevirtual 163, 3) := by decide +kernel
theorem dX11_worst_8 : decode cX11_worst 8 = .ok (.ifCond .ne 9, 3) := by decide +kernel
theorem dX11_worst_11 : decode cX11_worst 11 = .ok (.aload_n 0, 1) := by decide +kernel
theorem dX11_worst_12 : decode cX11_worst 12 = .ok (.iconst (-1), 1) := by decide +kernel
theorem dX11_worst_13 : decode cX11_worst 13 = .ok (.invokevirtual 80, 3) := by decide +kernel
theorem dX11_worst_16 : decode cX11_worst 16 = .ok (.ireturn, 1) := by decide +kernel
theorem dX11_worst_17 : decode cX11_worst 17 = .ok (.iload_n 2, 1) := by decide +kernel
theorem dX11_worst_18 : decode cX11_worst 18 = .ok (.ifCond .eq 15, 3) := by decide +kernel
theorem dX11_worst_21 : decode cX11_worst 21 = .ok (.iload_n 2, 1) := by decide +kernel
theorem dX11_worst_22 : decode cX11_worst 22 = .ok (.iconst 1, 1) := by decide +kernel
theorem dX11_worst_23 : decode cX11_worst 23 = .ok (.if_icmp .eq 10, 3) := by decide +kernel
theorem dX11_worst_26 : decode cX11_worst 26 = .ok (.aload_n 0, 1) := by decide +kernel
theorem dX11_worst_27 : decode cX11_worst 27 = .ok (.bipush (-2), 2) := by decide +kernel
theorem dX11_worst_29 : decode cX11_worst 29 = .ok (.invokevirtual 80, 3) := by decide +kernel
theorem dX11_worst_32 : decode cX11_worst 32 = .ok (.ireturn, 1) := by decide +kernel
theorem dX11_worst_33 : decode cX11_worst 33 = .ok (.iload_n 2, 1) := by decide +kernel
theorem dX11_worst_34 : decode cX11_worst 34 = .ok (.ifCond .ne 18, 3) := by decide +kernel
theorem dX11_worst_37 : decode cX11_worst 37 = .ok (.aload_n 0, 1) := by decide +kernel
theorem dX11_worst_38 : decode cX11_worst 38 = .ok (.getfield 60, 3) := by decide +kernel
theorem dX11_worst_41 : decode cX11_worst 41 = .ok (.iload_n 1, 1) := by decide +kernel
theorem dX11_worst_42 : decode cX11_worst 42 = .ok (.aload_n 0, 1) := by decide +kernel
theorem dX11_worst_43 : decode cX11_worst 43 = .ok (.invokevirtual 159, 3) := by decide +kernel
theorem dX11_worst_46 : decode cX11_worst 46 = .ok (.invokevirtual 176, 3) := by decide +kernel
theorem dX11_worst_49 : decode cX11_worst 49 = .ok (.goto 15, 3) := by decide +kernel
theorem dX11_worst_52 : decode cX11_worst 52 = .ok (.aload_n 0, 1) := by decide +kernel
theorem dX11_worst_53 : decode cX11_worst 53 = .ok (.getfield 60, 3) := by decide +kernel
theorem dX11_worst_56 : decode cX11_worst 56 = .ok (.iload_n 1, 1) := by decide +kernel
theorem dX11_worst_57 : decode cX11_worst 57 = .ok (.aload_n 0, 1) := by decide +kernel
theorem dX11_worst_58 : decode cX11_worst 58 = .ok (.invokevirtual 159, 3) := by decide +kernel
theorem dX11_worst_61 : decode cX11_worst 61 = .ok (.invokevirtual 179, 3) := by decide +kernel
theorem dX11_worst_64 : decode cX11_worst 64 = .ok (.ireturn, 1) := by decide +kernel
theorem dX11_best_0 : decode cX11_best 0 = .ok (.iload_n 1, 1) := by decide +kernel
theorem dX11_best_1 : decode cX11_best 1 = .ok (.ifCond .eq 15, 3) := by decide +kernel
theorem dX11_best_4 : decode cX11_best 4 = .ok (.iload_n 1, 1) := by decide +kernel
theorem dX11_best_5 : decode cX11_best 5 = .ok (.iconst 1, 1) := by decide +kernel
theorem dX11_best_6 : decode cX11_best 6 = .ok (.if_icmp .eq 10, 3) := by decide +kernel
theorem dX11_best_9 : decode cX11_best 9 = .ok (.aload_n 0, 1) := by decide +kernel
theorem dX11_best_10 : decode cX11_best 10 = .ok (.bipush (-2), 2) := by decide +kernel
theorem dX11_best_12 : decode cX11_best 12 = .ok (.invokevirtual 80, 3) := by decide +kernel
theorem dX11_best_15 : decode cX11_best 15 = .ok (.ireturn, 1) := by decide +kernel
theorem dX11_best_16 : decode cX11_best 16 = .ok (.aload_n 0, 1) := by decide +kernel
theorem dX11_best_17 : decode cX11_best 17 = .ok (.getfield 60, 3) := by decide +kernel
theorem dX11_best_20 : decode cX11_best 20 = .ok (.aload_n 0, 1) := by decide +kernel
theorem dX11_best_21 : decode cX11_best 21 = .ok (.invokevirtual 159, 3) := by decide +kernel
theorem dX11_best_24 : decode cX11_best 24 = .ok (.invokevirtual 182, 3) := by decide +kernel
theorem dX11_best_27 : decode cX11_best 27 = .ok (.istore_n 2, 1) := by decide +kernel
theorem dX11_best_28 : decode cX11_best 28 = .ok (.iload_n 1, 1) := by decide +kernel
theorem dX11_best_29 : decode cX11_best 29 = .ok (.ifCond .ne 13, 3) := by decide +kernel
theorem dX11_best_32 : decode cX11_best 32 = .ok (.aload_n 0, 1) := by decide +kernel
theorem dX11_best_33 : decode cX11_best 33 = .ok (.getfield 60, 3) := by decide +kernel
theorem dX11_best_36 : decode cX11_best 36 = .ok (.getfield 185, 3) := by decide +kernel
theorem dX11_best_39 : decode cX11_best 39 = .ok (.goto 4, 3) := by decide +kernel
theorem dX11_best_42 : decode cX11_best 42 = .ok (.iload_n 2, 1) := by decide +kernel
theorem dX11_best_43 : decode cX11_best 43 = .ok (.ireturn, 1) := by decide +kernel
theorem dX11_byRules_0 : decode cX11_byRules 0 = .ok (.aload_n 0, 1) := by decide +kernel
theorem dX11_byRules_1 : decode cX11_byRules 1 = .ok (.getfield 12, 3) := by decide +kernel
theorem dX11_byRules_4 : decode cX11_byRules 4 = .ok (.iload_n 1, 1) := by decide +kernel
theorem dX11_byRules_5 : decode cX11_byRules 5 = .ok (.invokevirtual 163, 3) := by decide +kernel
theorem dX11_byRules_8 : decode cX11_byRules 8 = .ok (.ifCond .eq 14, 3) := by decide +kernel
theorem dX11_byRules_11 : decode cX11_byRules 11 = .ok (.aload_n 0, 1) := by decide +kernel
theorem dX11_byRules_12 : decode cX11_byRules 12 = .ok (.getfield 12, 3) := by decide +kernel
theorem dX11_byRules_15 : decode cX11_byRules 15 = .ok (.iload_n 2, 1) := by decide +kernel
theorem dX11_byRules_16 : decode cX11_byRules 16 = .ok (.invokevirtual 166, 3) := by decide +kernel
theorem dX11_byRules_19 : decode cX11_byRules 19 = .ok (.ifCond .ne 9, 3) := by decide +kernel
theorem dX11_byRules_22 : decode cX11_byRules 22 = .ok (.aload_n 0, 1) := by decide +kernel
theorem dX11_byRules_23 : decode cX11_byRules 23 = .ok (.iconst (-1), 1) := by decide +kernel
theorem dX11_byRules_24 : decode cX11_byRules 24 = .ok (.invokevirtual 80, 3) := by decide +kernel
theorem dX11_byRules_27 : decode cX11_byRules 27 = .ok (.ireturn, 1) := by decide +kernel
theorem dX11_byRules_28 : decode cX11_byRules 28 = .ok (.aload_n 0, 1) := by decide +kernel
theorem dX11_byRules_29 : decode cX11_byRules 29 = .ok (.getfield 53, 3) := by decide +kernel
theorem dX11_byRules_32 : decode cX11_byRules 32 = .ok (.iload_n 1, 1) := by decide +kernel
theorem dX11_byRules_33 : decode cX11_byRules 33 = .ok (.iload_n 2, 1) := by decide +kernel
theorem dX11_byRules_34 : decode cX11_byRules 34 = .ok (.invokevirtual 188, 3) := by decide +kernel
theorem dX11_byRules_37 : decode cX11_byRules 37 = .ok (.ireturn, 1) := by decide +kernel
theorem dX11_ruled_0 : decode cX11_ruled 0 = .ok (.aload_n 0, 1) := by decide +kernel
theorem dX11_ruled_1 : decode cX11_ruled 1 = .ok (.getfield 12, 3) := by decide +kernel
theorem dX11_ruled_4 : decode cX11_ruled 4 = .ok (.iload_n 1, 1) := by decide +kernel
theorem dX11_ruled_5 : decode cX11_ruled 5 = .ok (.invokevirtual 163, 3) := by decide +kernel
theorem dX11_ruled_8 : decode cX11_ruled 8 = .ok (.ifCond .ne 9, 3) := by decide +kernel
theorem dX11_ruled_11 : decode cX11_ruled 11 = .ok (.aload_n 0, 1) := by decide +kernel
theorem dX11_ruled_12 : decode cX11_ruled 12 = .ok (.iconst (-1), 1) := by decide +kernel
theorem dX11_ruled_13 : decode cX11_ruled 13 = .ok (.invokevirtual 80, 3) := by decide +kernel
theorem dX11_ruled_16 : decode cX11_ruled 16 = .ok (.ireturn, 1) := by decide +kernel
theorem dX11_ruled_17 : decode cX11_ruled 17 = .ok (.iload_n 2, 1) := by decide +kernel
theorem dX11_ruled_18 : decode cX11_ruled 18 = .ok (.ifCond .eq 15, 3) := by decide +kernel
theorem dX11_ruled_21 : decode cX11_ruled 21 = .ok (.iload_n 2, 1) := by decide +kernel
theorem dX11_ruled_22 : decode cX11_ruled 22 = .ok (.iconst 1, 1) := by decide +kernel
theorem dX11_ruled_23 : decode cX11_ruled 23 = .ok (.if_icmp .eq 10, 3) := by decide +kernel
theorem dX11_ruled_26 : decode cX11_ruled 26 = .ok (.aload_n 0, 1) := by decide +kernel
theorem dX11_ruled_27 : decode cX11_ruled 27 = .ok (.bipush (-2), 2) := by decide +kernel
theorem dX11_ruled_29 : decode cX11_ruled 29 = .ok (.invokevirtual 80, 3) := by decide +kernel
theorem dX11_ruled_32 : decode cX11_ruled 32 = .ok (.ireturn, 1) := by decide +kernel
theorem dX11_ruled_33 : decode cX11_ruled 33 = .ok (.aload_n 0, 1) := by decide +kernel
theorem dX11_ruled_34 : decode cX11_ruled 34 = .ok (.invokevirtual 159, 3) := by decide +kernel
theorem dX11_ruled_37 : decode cX11_ruled 37 = .ok (.istore_n 3, 1) := by decide +kernel
theorem dX11_ruled_38 : decode cX11_ruled 38 = .ok (.iload_n 3, 1) := by decide +kernel
theorem dX11_ruled_39 : decode cX11_ruled 39 = .ok (.ifCond .ne 6, 3) := by decide +kernel
theorem dX11_ruled_42 : decode cX11_ruled 42 = .ok (.bipush (-9), 2) := by decide +kernel
theorem dX11_ruled_44 : decode cX11_ruled 44 = .ok (.ireturn, 1) := by decide +kernel
theorem dX11_ruled_45 : decode cX11_ruled 45 = .ok (.aload_n 0, 1) := by decide +kernel
theorem dX11_ruled_46 : decode cX11_ruled 46 = .ok (.getfield 53, 3) := by decide +kernel
theorem dX11_ruled_49 : decode cX11_ruled 49 = .ok (.iload_n 1, 1) := by decide +kernel
theorem dX11_ruled_50 : decode cX11_ruled 50 = .ok (.iload_n 3, 1) := by decide +kernel
theorem dX11_ruled_51 : decode cX11_ruled 51 = .ok (.invokevirtual 191, 3) := by decide +kernel
theorem dX11_ruled_54 : decode cX11_ruled 54 = .ok (.istore 4, 2) := by decide +kernel
theorem dX11_ruled_56 : decode cX11_ruled 56 = .ok (.iload_n 2, 1) := by decide +kernel
theorem dX11_ruled_57 : decode cX11_ruled 57 = .ok (.ifCond .ne 8, 3) := by decide +kernel
theorem dX11_ruled_60 : decode cX11_ruled 60 = .ok (.iload 4, 2) := by decide +kernel
theorem dX11_ruled_62 : decode cX11_ruled 62 = .ok (.goto 15, 3) := by decide +kernel
theorem dX11_ruled_65 : decode cX11_ruled 65 = .ok (.iload 4, 2) := by decide +kernel
theorem dX11_ruled_67 : decode cX11_ruled 67 = .ok (.aload_n 0, 1) := by decide +kernel
theorem dX11_ruled_68 : decode cX11_ruled 68 = .ok (.getfield 60, 3) := by decide +kernel
theorem dX11_ruled_71 : decode cX11_ruled 71 = .ok (.iload_n 1, 1) := by decide +kernel
theorem dX11_ruled_72 : decode cX11_ruled 72 = .ok (.iload_n 3, 1) := by decide +kernel
theorem dX11_ruled_73 : decode cX11_ruled 73 = .ok (.invokevirtual 176, 3) := by decide +kernel
theorem dX11_ruled_76 : decode cX11_ruled 76 = .ok (.isub, 1) := by decide +kernel
theorem dX11_ruled_77 : decode cX11_ruled 77 = .ok (.ireturn, 1) := by decide +kernel
theorem dX11_close_0 : decode cX11_close 0 = .ok (.iload_n 2, 1) := by decide +kernel
theorem dX11_close_1 : decode cX11_close 1 = .ok (.ifCond .lt 8, 3) := by decide +kernel
theorem dX11_close_4 : decode cX11_close 4 = .ok (.iload_n 2, 1) := by decide +kernel
theorem dX11_close_5 : decode cX11_close 5 = .ok (.iconst 5, 1) := by decide +kernel
theorem dX11_close_6 : decode cX11_close 6 = .ok (.if_icmp .le 10, 3) := by decide +kernel
theorem dX11_close_9 : decode cX11_close 9 = .ok (.aload_n 0, 1) := by decide +kernel
theorem dX11_close_10 : decode cX11_close 10 = .ok (.bipush (-2), 2) := by decide +kernel
theorem dX11_close_12 : decode cX11_close 12 = .ok (.invokevirtual 80, 3) := by decide +kernel
theorem dX11_close_15 : decode cX11_close 15 = .ok (.ireturn, 1) := by decide +kernel
theorem dX11_close_16 : decode cX11_close 16 = .ok (.iload_n 1, 1) := by decide +kernel
theorem dX11_close_17 : decode cX11_close 17 = .ok (.iconst 1, 1) := by decide +kernel
theorem dX11_close_18 : decode cX11_close 18 = .ok (.if_icmp .ge 10, 3) := by decide +kernel
theorem dX11_close_21 : decode cX11_close 21 = .ok (.aload_n 0, 1) := by decide +kernel
theorem dX11_close_22 : decode cX11_close 22 = .ok (.bipush (-4), 2) := by decide +kernel
theorem dX11_close_24 : decode cX11_close 24 = .ok (.invokevirtual 80, 3) := by decide +kernel
theorem dX11_close_27 : decode cX11_close 27 = .ok (.ireturn, 1) := by decide +kernel
theorem dX11_close_28 : decode cX11_close 28 = .ok (.iload_n 1, 1) := by decide +kernel
theorem dX11_close_29 : decode cX11_close 29 = .ok (.bipush 99, 2) := by decide +kernel
theorem dX11_close_31 : decode cX11_close 31 = .ok (.if_icmp .le 10, 3) := by decide +kernel
theorem dX11_close_34 : decode cX11_close 34 = .ok (.aload_n 0, 1) := by decide +kernel
theorem dX11_close_35 : decode cX11_close 35 = .ok (.bipush (-6), 2) := by decide +kernel
theorem dX11_close_37 : decode cX11_close 37 = .ok (.invokevirtual 80, 3) := by decide +kernel
theorem dX11_close_40 : decode cX11_close 40 = .ok (.ireturn, 1) := by decide +kernel
theorem dX11_close_41 : decode cX11_close 41 = .ok (.aload_n 0, 1) := by decide +kernel
theorem dX11_close_42 : decode cX11_close 42 = .ok (.invokevirtual 159, 3) := by decide +kernel
theorem dX11_close_45 : decode cX11_close 45 = .ok (.istore_n 3, 1) := by decide +kernel
theorem dX11_close_46 : decode cX11_close 46 = .ok (.iload_n 3, 1) := by decide +kernel
theorem dX11_close_47 : decode cX11_close 47 = .ok (.ifCond .ne 6, 3) := by decide +kernel
theorem dX11_close_50 : decode cX11_close 50 = .ok (.bipush (-9), 2) := by decide +kernel
theorem dX11_close_52 : decode cX11_close 52 = .ok (.ireturn, 1) := by decide +kernel
theorem dX11_close_53 : decode cX11_close 53 = .ok (.aload_n 0, 1) := by decide +kernel
theorem dX11_close_54 : decode cX11_close 54 = .ok (.getfield 69, 3) := by decide +kernel
theorem dX11_close_57 : decode cX11_close 57 = .ok (.iload_n 1, 1) := by decide +kernel
theorem dX11_close_58 : decode cX11_close 58 = .ok (.iload_n 3, 1) := by decide +kernel
theorem dX11_close_59 : decode cX11_close 59 = .ok (.invokevirtual 192, 3) := by decide +kernel
theorem dX11_close_62 : decode cX11_close 62 = .ok (.aload_n 0, 1) := by decide +kernel
theorem dX11_close_63 : decode cX11_close 63 = .ok (.getfield 69, 3) := by decide +kernel
theorem dX11_close_66 : decode cX11_close 66 = .ok (.iload_n 2, 1) := by decide +kernel
theorem dX11_close_67 : decode cX11_close 67 = .ok (.invokevirtual 196, 3) := by decide +kernel
theorem dX11_close_70 : decode cX11_close 70 = .ok (.ireturn, 1) := by decide +kernel
theorem dX11_put_0 : decode cX11_put 0 = .ok (.aload_n 0, 1) := by decide +kernel
theorem dX11_put_1 : decode cX11_put 1 = .ok (.getfield 41, 3) := by decide +kernel
theorem dX11_put_4 : decode cX11_put 4 = .ok (.bipush 12, 2) := by decide +kernel
theorem dX11_put_6 : decode cX11_put 6 = .ok (.if_icmp .lt 10, 3) := by decide +kernel
theorem dX11_put_9 : decode cX11_put 9 = .ok (.aload_n 0, 1) := by decide +kernel
theorem dX11_put_10 : decode cX11_put 10 = .ok (.bipush (-6), 2) := by decide +kernel
theorem dX11_put_12 : decode cX11_put 12 = .ok (.invokevirtual 80, 3) := by decide +kernel
theorem dX11_put_15 : decode cX11_put 15 = .ok (.ireturn, 1) := by decide +kernel
theorem dX11_put_16 : decode cX11_put 16 = .ok (.aload_n 0, 1) := by decide +kernel
theorem dX11_put_17 : decode cX11_put 17 = .ok (.getfield 37, 3) := by decide +kernel
theorem dX11_put_20 : decode cX11_put 20 = .ok (.aload_n 0, 1) := by decide +kernel
theorem dX11_put_21 : decode cX11_put 21 = .ok (.getfield 41, 3) := by decide +kernel
theorem dX11_put_24 : decode cX11_put 24 = .ok (.iload_n 1, 1) := by decide +kernel
theorem dX11_put_25 : decode cX11_put 25 = .ok (.iastore, 1) := by decide +kernel
theorem dX11_put_26 : decode cX11_put 26 = .ok (.aload_n 0, 1) := by decide +kernel
theorem dX11_put_27 : decode cX11_put 27 = .ok (.dup, 1) := by decide +kernel
theorem dX11_put_28 : decode cX11_put 28 = .ok (.getfield 41, 3) := by decide +kernel
theorem dX11_put_31 : decode cX11_put 31 = .ok (.iconst 1, 1) := by decide +kernel
theorem dX11_put_32 : decode cX11_put 32 = .ok (.iadd, 1) := by decide +kernel
theorem dX11_put_33 : decode cX11_put 33 = .ok (.putfield 41, 3) := by decide +kernel
theorem dX11_put_36 : decode cX11_put 36 = .ok (.aload_n 0, 1) := by decide +kernel
theorem dX11_put_37 : decode cX11_put 37 = .ok (.getfield 41, 3) := by decide +kernel
theorem dX11_put_40 : decode cX11_put 40 = .ok (.ireturn, 1) := by decide +kernel
theorem dX11_prove_0 : decode cX11_prove 0 = .ok (.aload_n 0, 1) := by decide +kernel
theorem dX11_prove_1 : decode cX11_prove 1 = .ok (.getfield 12, 3) := by decide +kernel
theorem dX11_prove_4 : decode cX11_prove 4 = .ok (.iload_n 1, 1) := by decide +kernel
theorem dX11_prove_5 : decode cX11_prove 5 = .ok (.invokevirtual 163, 3) := by decide +kernel
theorem dX11_prove_8 : decode cX11_prove 8 = .ok (.ifCond .eq 14, 3) := by decide +kernel
theorem dX11_prove_11 : decode cX11_prove 11 = .ok (.aload_n 0, 1) := by decide +kernel
theorem dX11_prove_12 : decode cX11_prove 12 = .ok (.getfield 12, 3) := by decide +kernel
theorem dX11_prove_15 : decode cX11_prove 15 = .ok (.iload_n 2, 1) := by decide +kernel
theorem dX11_prove_16 : decode cX11_prove 16 = .ok (.invokevirtual 166, 3) := by decide +kernel
theorem dX11_prove_19 : decode cX11_prove 19 = .ok (.ifCond .ne 9, 3) := by decide +kernel
theorem dX11_prove_22 : decode cX11_prove 22 = .ok (.aload_n 0, 1) := by decide +kernel
theorem dX11_prove_23 : decode cX11_prove 23 = .ok (.iconst (-1), 1) := by decide +kernel
theorem dX11_prove_24 : decode cX11_prove 24 = .ok (.invokevirtual 80, 3) := by decide +kernel
theorem dX11_prove_27 : decode cX11_prove 27 = .ok (.ireturn, 1) := by decide +kernel
theorem dX11_prove_28 : decode cX11_prove 28 = .ok (.aload_n 0, 1) := by decide +kernel
theorem dX11_prove_29 : decode cX11_prove 29 = .ok (.getfield 41, 3) := by decide +kernel
theorem dX11_prove_32 : decode cX11_prove 32 = .ok (.bipush 12, 2) := by decide +kernel
theorem dX11_prove_34 : decode cX11_prove 34 = .ok (.if_icmp .eq 10, 3) := by decide +kernel
theorem dX11_prove_37 : decode cX11_prove 37 = .ok (.aload_n 0, 1) := by decide +kernel
theorem dX11_prove_38 : decode cX11_prove 38 = .ok (.bipush (-3), 2) := by decide +kernel
theorem dX11_prove_40 : decode cX11_prove 40 = .ok (.invokevirtual 80, 3) := by decide +kernel
theorem dX11_prove_43 : decode cX11_prove 43 = .ok (.ireturn, 1) := by decide +kernel
theorem dX11_prove_44 : decode cX11_prove 44 = .ok (.aload_n 0, 1) := by decide +kernel
theorem dX11_prove_45 : decode cX11_prove 45 = .ok (.iconst 0, 1) := by decide +kernel
theorem dX11_prove_46 : decode cX11_prove 46 = .ok (.putfield 41, 3) := by decide +kernel
theorem dX11_prove_49 : decode cX11_prove 49 = .ok (.aload_n 0, 1) := by decide +kernel
theorem dX11_prove_50 : decode cX11_prove 50 = .ok (.getfield 37, 3) := by decide +kernel
theorem dX11_prove_53 : decode cX11_prove 53 = .ok (.aload_n 0, 1) := by decide +kernel
theorem dX11_prove_54 : decode cX11_prove 54 = .ok (.getfield 12, 3) := by decide +kernel
theorem dX11_prove_57 : decode cX11_prove 57 = .ok (.iload_n 1, 1) := by decide +kernel
theorem dX11_prove_58 : decode cX11_prove 58 = .ok (.iload_n 2, 1) := by decide +kernel
theorem dX11_prove_59 : decode cX11_prove 59 = .ok (.invokestatic 199, 3) := by decide +kernel
theorem dX11_prove_62 : decode cX11_prove 62 = .ok (.istore_n 3, 1) := by decide +kernel
theorem dX11_prove_63 : decode cX11_prove 63 = .ok (.iload_n 3, 1) := by decide +kernel
theorem dX11_prove_64 : decode cX11_prove 64 = .ok (.ifCond .lt 11, 3) := by decide +kernel
theorem dX11_prove_67 : decode cX11_prove 67 = .ok (.sipush (-1000), 3) := by decide +kernel
theorem dX11_prove_70 : decode cX11_prove 70 = .ok (.iload_n 3, 1) := by decide +kernel
theorem dX11_prove_71 : decode cX11_prove 71 = .ok (.isub, 1) := by decide +kernel
theorem dX11_prove_72 : decode cX11_prove 72 = .ok (.goto 16, 3) := by decide +kernel
theorem dX11_prove_75 : decode cX11_prove 75 = .ok (.aload_n 0, 1) := by decide +kernel
theorem dX11_prove_76 : decode cX11_prove 76 = .ok (.getfield 37, 3) := by decide +kernel
theorem dX11_prove_79 : decode cX11_prove 79 = .ok (.aload_n 0, 1) := by decide +kernel
theorem dX11_prove_80 : decode cX11_prove 80 = .ok (.getfield 12, 3) := by decide +kernel
theorem dX11_prove_83 : decode cX11_prove 83 = .ok (.iload_n 1, 1) := by decide +kernel
theorem dX11_prove_84 : decode cX11_prove 84 = .ok (.iload_n 2, 1) := by decide +kernel
theorem dX11_prove_85 : decode cX11_prove 85 = .ok (.invokestatic 205, 3) := by decide +kernel
theorem dX11_prove_88 : decode cX11_prove 88 = .ok (.ireturn, 1) := by decide +kernel
theorem dX11_promise_0 : decode cX11_promise 0 = .ok (.aload_n 0, 1) := by decide +kernel
theorem dX11_promise_1 : decode cX11_promise 1 = .ok (.getfield 12, 3) := by decide +kernel
theorem dX11_promise_4 : decode cX11_promise 4 = .ok (.iload_n 1, 1) := by decide +kernel
theorem dX11_promise_5 : decode cX11_promise 5 = .ok (.invokevirtual 163, 3) := by decide +kernel
theorem dX11_promise_8 : decode cX11_promise 8 = .ok (.ifCond .eq 14, 3) := by decide +kernel
theorem dX11_promise_11 : decode cX11_promise 11 = .ok (.aload_n 0, 1) := by decide +kernel
theorem dX11_promise_12 : decode cX11_promise 12 = .ok (.getfield 12, 3) := by decide +kernel
theorem dX11_promise_15 : decode cX11_promise 15 = .ok (.iload_n 3, 1) := by decide +kernel
theorem dX11_promise_16 : decode cX11_promise 16 = .ok (.invokevirtual 166, 3) := by decide +kernel
theorem dX11_promise_19 : decode cX11_promise 19 = .ok (.ifCond .ne 9, 3) := by decide +kernel
theorem dX11_promise_22 : decode cX11_promise 22 = .ok (.aload_n 0, 1) := by decide +kernel
theorem dX11_promise_23 : decode cX11_promise 23 = .ok (.iconst (-1), 1) := by decide +kernel
theorem dX11_promise_24 : decode cX11_promise 24 = .ok (.invokevirtual 80, 3) := by decide +kernel
theorem dX11_promise_27 : decode cX11_promise 27 = .ok (.ireturn, 1) := by decide +kernel
theorem dX11_promise_28 : decode cX11_promise 28 = .ok (.iload_n 2, 1) := by decide +kernel
theorem dX11_promise_29 : decode cX11_promise 29 = .ok (.ifCond .ge 10, 3) := by decide +kernel
theorem dX11_promise_32 : decode cX11_promise 32 = .ok (.aload_n 0, 1) := by decide +kernel
theorem dX11_promise_33 : decode cX11_promise 33 = .ok (.bipush (-4), 2) := by decide +kernel
theorem dX11_promise_35 : decode cX11_promise 35 = .ok (.invokevirtual 80, 3) := by decide +kernel
theorem dX11_promise_38 : decode cX11_promise 38 = .ok (.ireturn, 1) := by decide +kernel
theorem dX11_promise_39 : decode cX11_promise 39 = .ok (.iload_n 2, 1) := by decide +kernel
theorem dX11_promise_40 : decode cX11_promise 40 = .ok (.bipush 9, 2) := by decide +kernel
theorem dX11_promise_42 : decode cX11_promise 42 = .ok (.if_icmp .le 10, 3) := by decide +kernel
theorem dX11_promise_45 : decode cX11_promise 45 = .ok (.aload_n 0, 1) := by decide +kernel
theorem dX11_promise_46 : decode cX11_promise 46 = .ok (.bipush (-6), 2) := by decide +kernel
theorem dX11_promise_48 : decode cX11_promise 48 = .ok (.invokevirtual 80, 3) := by decide +kernel
theorem dX11_promise_51 : decode cX11_promise 51 = .ok (.ireturn, 1) := by decide +kernel
theorem dX11_promise_52 : decode cX11_promise 52 = .ok (.aload_n 0, 1) := by decide +kernel
theorem dX11_promise_53 : decode cX11_promise 53 = .ok (.getfield 60, 3) := by decide +kernel
theorem dX11_promise_56 : decode cX11_promise 56 = .ok (.iload_n 1, 1) := by decide +kernel
theorem dX11_promise_57 : decode cX11_promise 57 = .ok (.aload_n 0, 1) := by decide +kernel
theorem dX11_promise_58 : decode cX11_promise 58 = .ok (.invokevirtual 159, 3) := by decide +kernel
theorem dX11_promise_61 : decode cX11_promise 61 = .ok (.iload_n 3, 1) := by decide +kernel
theorem dX11_promise_62 : decode cX11_promise 62 = .ok (.aload_n 0, 1) := by decide +kernel
theorem dX11_promise_63 : decode cX11_promise 63 = .ok (.getfield 12, 3) := by decide +kernel
theorem dX11_promise_66 : decode cX11_promise 66 = .ok (.iload_n 2, 1) := by decide +kernel
theorem dX11_promise_67 : decode cX11_promise 67 = .ok (.invokevirtual 142, 3) := by decide +kernel
theorem dX11_promise_70 : decode cX11_promise 70 = .ok (.invokestatic 208, 3) := by decide +kernel
theorem dX11_promise_73 : decode cX11_promise 73 = .ok (.invokevirtual 176, 3) := by decide +kernel
theorem dX11_promise_76 : decode cX11_promise 76 = .ok (.ireturn, 1) := by decide +kernel
theorem dX11_corner_0 : decode cX11_corner 0 = .ok (.iload_n 1, 1) := by decide +kernel
theorem dX11_corner_1 : decode cX11_corner 1 = .ok (.ifCond .ge 10, 3) := by decide +kernel
theorem dX11_corner_4 : decode cX11_corner 4 = .ok (.aload_n 0, 1) := by decide +kernel
theorem dX11_corner_5 : decode cX11_corner 5 = .ok (.bipush (-4), 2) := by decide +kernel
theorem dX11_corner_7 : decode cX11_corner 7 = .ok (.invokevirtual 80, 3) := by decide +kernel
theorem dX11_corner_10 : decode cX11_corner 10 = .ok (.ireturn, 1) := by decide +kernel
theorem dX11_corner_11 : decode cX11_corner 11 = .ok (.iload_n 1, 1) := by decide +kernel
theorem dX11_corner_12 : decode cX11_corner 12 = .ok (.iconst 4, 1) := by decide +kernel
theorem dX11_corner_13 : decode cX11_corner 13 = .ok (.if_icmp .le 10, 3) := by decide +kernel
theorem dX11_corner_16 : decode cX11_corner 16 = .ok (.aload_n 0, 1) := by decide +kernel
theorem dX11_corner_17 : decode cX11_corner 17 = .ok (.bipush (-6), 2) := by decide +kernel
theorem dX11_corner_19 : decode cX11_corner 19 = .ok (.invokevirtual 80, 3) := by decide +kernel
theorem dX11_corner_22 : decode cX11_corner 22 = .ok (.ireturn, 1) := by decide +kernel
theorem dX11_corner_23 : decode cX11_corner 23 = .ok (.aload_n 0, 1) := by decide +kernel
theorem dX11_corner_24 : decode cX11_corner 24 = .ok (.getfield 60, 3) := by decide +kernel
theorem dX11_corner_27 : decode cX11_corner 27 = .ok (.aload_n 0, 1) := by decide +kernel
theorem dX11_corner_28 : decode cX11_corner 28 = .ok (.getfield 12, 3) := by decide +kernel
theorem dX11_corner_31 : decode cX11_corner 31 = .ok (.iload_n 1, 1) := by decide +kernel
theorem dX11_corner_32 : decode cX11_corner 32 = .ok (.invokevirtual 212, 3) := by decide +kernel
theorem dX11_corner_35 : decode cX11_corner 35 = .ok (.invokevirtual 182, 3) := by decide +kernel
theorem dX11_corner_38 : decode cX11_corner 38 = .ok (.ireturn, 1) := by decide +kernel
theorem dX11_flat_0 : decode cX11_flat 0 = .ok (.aload_n 0, 1) := by decide +kernel
theorem dX11_flat_1 : decode cX11_flat 1 = .ok (.getfield 12, 3) := by decide +kernel
theorem dX11_flat_4 : decode cX11_flat 4 = .ok (.iconst 0, 1) := by decide +kernel
theorem dX11_flat_5 : decode cX11_flat 5 = .ok (.invokevirtual 212, 3) := by decide +kernel
theorem dX11_flat_8 : decode cX11_flat 8 = .ok (.istore_n 1, 1) := by decide +kernel
theorem dX11_flat_9 : decode cX11_flat 9 = .ok (.aload_n 0, 1) := by decide +kernel
theorem dX11_flat_10 : decode cX11_flat 10 = .ok (.getfield 60, 3) := by decide +kernel
theorem dX11_flat_13 : decode cX11_flat 13 = .ok (.aload_n 0, 1) := by decide +kernel
theorem dX11_flat_14 : decode cX11_flat 14 = .ok (.invokevirtual 159, 3) := by decide +kernel
theorem dX11_flat_17 : decode cX11_flat 17 = .ok (.invokevirtual 182, 3) := by decide +kernel
theorem dX11_flat_20 : decode cX11_flat 20 = .ok (.bipush (-9), 2) := by decide +kernel
theorem dX11_flat_22 : decode cX11_flat 22 = .ok (.if_icmp .eq 7, 3) := by decide +kernel
theorem dX11_flat_25 : decode cX11_flat 25 = .ok (.iload_n 1, 1) := by decide +kernel
theorem dX11_flat_26 : decode cX11_flat 26 = .ok (.ifCond .ne 6, 3) := by decide +kernel
theorem dX11_flat_29 : decode cX11_flat 29 = .ok (.bipush (-9), 2) := by decide +kernel
theorem dX11_flat_31 : decode cX11_flat 31 = .ok (.ireturn, 1) := by decide +kernel
theorem dX11_flat_32 : decode cX11_flat 32 = .ok (.aload_n 0, 1) := by decide +kernel
theorem dX11_flat_33 : decode cX11_flat 33 = .ok (.getfield 60, 3) := by decide +kernel
theorem dX11_flat_36 : decode cX11_flat 36 = .ok (.getfield 185, 3) := by decide +kernel
theorem dX11_flat_39 : decode cX11_flat 39 = .ok (.istore_n 2, 1) := by decide +kernel
theorem dX11_flat_40 : decode cX11_flat 40 = .ok (.aload_n 0, 1) := by decide +kernel
theorem dX11_flat_41 : decode cX11_flat 41 = .ok (.getfield 60, 3) := by decide +kernel
theorem dX11_flat_44 : decode cX11_flat 44 = .ok (.iload_n 2, 1) := by decide +kernel
theorem dX11_flat_45 : decode cX11_flat 45 = .ok (.iload_n 1, 1) := by decide +kernel
theorem dX11_flat_46 : decode cX11_flat 46 = .ok (.invokevirtual 176, 3) := by decide +kernel
theorem dX11_flat_49 : decode cX11_flat 49 = .ok (.istore_n 3, 1) := by decide +kernel
theorem dX11_flat_50 : decode cX11_flat 50 = .ok (.iconst 0, 1) := by decide +kernel
theorem dX11_flat_51 : decode cX11_flat 51 = .ok (.istore 4, 2) := by decide +kernel
theorem dX11_flat_53 : decode cX11_flat 53 = .ok (.iconst 1, 1) := by decide +kernel
theorem dX11_flat_54 : decode cX11_flat 54 = .ok (.istore 5, 2) := by decide +kernel
theorem dX11_flat_56 : decode cX11_flat 56 = .ok (.iload 5, 2) := by decide +kernel
theorem dX11_flat_58 : decode cX11_flat 58 = .ok (.iconst 4, 1) := by decide +kernel
theorem dX11_flat_59 : decode cX11_flat 59 = .ok (.if_icmp .gt 34, 3) := by decide +kernel
theorem dX11_flat_62 : decode cX11_flat 62 = .ok (.aload_n 0, 1) := by decide +kernel
theorem dX11_flat_63 : decode cX11_flat 63 = .ok (.getfield 60, 3) := by decide +kernel
theorem dX11_flat_66 : decode cX11_flat 66 = .ok (.iload_n 2, 1) := by decide +kernel
theorem dX11_flat_67 : decode cX11_flat 67 = .ok (.aload_n 0, 1) := by decide +kernel
theorem dX11_flat_68 : decode cX11_flat 68 = .ok (.getfield 12, 3) := by decide +kernel
theorem dX11_flat_71 : decode cX11_flat 71 = .ok (.iload 5, 2) := by decide +kernel
theorem dX11_flat_73 : decode cX11_flat 73 = .ok (.invokevirtual 212, 3) := by decide +kernel
theorem dX11_flat_76 : decode cX11_flat 76 = .ok (.invokevirtual 176, 3) := by decide +kernel
theorem dX11_flat_79 : decode cX11_flat 79 = .ok (.iload_n 3, 1) := by decide +kernel
theorem dX11_flat_80 : decode cX11_flat 80 = .ok (.if_icmp .ne 7, 3) := by decide +kernel
theorem dX11_flat_83 : decode cX11_flat 83 = .ok (.iload 5, 2) := by decide +kernel
theorem dX11_flat_85 : decode cX11_flat 85 = .ok (.istore 4, 2) := by decide +kernel
theorem dX11_flat_87 : decode cX11_flat 87 = .ok (.iinc 5 1, 3) := by decide +kernel
theorem dX11_flat_90 : decode cX11_flat 90 = .ok (.goto (-34), 3) := by decide +kernel
theorem dX11_flat_93 : decode cX11_flat 93 = .ok (.iload 4, 2) := by decide +kernel
theorem dX11_flat_95 : decode cX11_flat 95 = .ok (.ireturn, 1) := by decide +kernel
theorem dX11_foreknown_0 : decode cX11_foreknown 0 = .ok (.aload_n 0, 1) := by decide +kernel
theorem dX11_foreknown_1 : decode cX11_foreknown 1 = .ok (.getfield 12, 3) := by decide +kernel
theorem dX11_foreknown_4 : decode cX11_foreknown 4 = .ok (.iload_n 1, 1) := by decide +kernel
theorem dX11_foreknown_5 : decode cX11_foreknown 5 = .ok (.invokevirtual 84, 3) := by decide +kernel
theorem dX11_foreknown_8 : decode cX11_foreknown 8 = .ok (.ifCond .ne 9, 3) := by decide +kernel
theorem dX11_foreknown_11 : decode cX11_foreknown 11 = .ok (.aload_n 0, 1) := by decide +kernel
theorem dX11_foreknown_12 : decode cX11_foreknown 12 = .ok (.iconst (-1), 1) := by decide +kernel
theorem dX11_foreknown_13 : decode cX11_foreknown 13 = .ok (.invokevirtual 80, 3) := by decide +kernel
theorem dX11_foreknown_16 : decode cX11_foreknown 16 = .ok (.ireturn, 1) := by decide +kernel
theorem dX11_foreknown_17 : decode cX11_foreknown 17 = .ok (.iload_n 2, 1) := by decide +kernel
theorem dX11_foreknown_18 : decode cX11_foreknown 18 = .ok (.ifCond .eq 15, 3) := by decide +kernel
theorem dX11_foreknown_21 : decode cX11_foreknown 21 = .ok (.iload_n 2, 1) := by decide +kernel
theorem dX11_foreknown_22 : decode cX11_foreknown 22 = .ok (.iconst 1, 1) := by decide +kernel
theorem dX11_foreknown_23 : decode cX11_foreknown 23 = .ok (.if_icmp .eq 10, 3) := by decide +kernel
theorem dX11_foreknown_26 : decode cX11_foreknown 26 = .ok (.aload_n 0, 1) := by decide +kernel
theorem dX11_foreknown_27 : decode cX11_foreknown 27 = .ok (.bipush (-2), 2) := by decide +kernel
theorem dX11_foreknown_29 : decode cX11_foreknown 29 = .ok (.invokevirtual 80, 3) := by decide +kernel
theorem dX11_foreknown_32 : decode cX11_foreknown 32 = .ok (.ireturn, 1) := by decide +kernel
theorem dX11_foreknown_33 : decode cX11_foreknown 33 = .ok (.aload_n 0, 1) := by decide +kernel
theorem dX11_foreknown_34 : decode cX11_foreknown 34 = .ok (.invokevirtual 159, 3) := by decide +kernel
theorem dX11_foreknown_37 : decode cX11_foreknown 37 = .ok (.istore_n 3, 1) := by decide +kernel
theorem dX11_foreknown_38 : decode cX11_foreknown 38 = .ok (.iload_n 3, 1) := by decide +kernel
theorem dX11_foreknown_39 : decode cX11_foreknown 39 = .ok (.ifCond .ne 6, 3) := by decide +kernel
theorem dX11_foreknown_42 : decode cX11_foreknown 42 = .ok (.bipush (-9), 2) := by decide +kernel
theorem dX11_foreknown_44 : decode cX11_foreknown 44 = .ok (.ireturn, 1) := by decide +kernel
theorem dX11_foreknown_45 : decode cX11_foreknown 45 = .ok (.aload_n 0, 1) := by decide +kernel
theorem dX11_foreknown_46 : decode cX11_foreknown 46 = .ok (.iload_n 1, 1) := by decide +kernel
theorem dX11_foreknown_47 : decode cX11_foreknown 47 = .ok (.iload_n 3, 1) := by decide +kernel
theorem dX11_foreknown_48 : decode cX11_foreknown 48 = .ok (.invokevirtual 215, 3) := by decide +kernel
theorem dX11_foreknown_51 : decode cX11_foreknown 51 = .ok (.istore 4, 2) := by decide +kernel
theorem dX11_foreknown_53 : decode cX11_foreknown 53 = .ok (.iload_n 2, 1) := by decide +kernel
theorem dX11_foreknown_54 : decode cX11_foreknown 54 = .ok (.ifCond .ne 8, 3) := by decide +kernel
theorem dX11_foreknown_57 : decode cX11_foreknown 57 = .ok (.iload 4, 2) := by decide +kernel
theorem dX11_foreknown_59 : decode cX11_foreknown 59 = .ok (.goto 14, 3) := by decide +kernel
theorem dX11_foreknown_62 : decode cX11_foreknown 62 = .ok (.aload_n 0, 1) := by decide +kernel
theorem dX11_foreknown_63 : decode cX11_foreknown 63 = .ok (.getfield 60, 3) := by decide +kernel
theorem dX11_foreknown_66 : decode cX11_foreknown 66 = .ok (.iload_n 3, 1) := by decide +kernel
theorem dX11_foreknown_67 : decode cX11_foreknown 67 = .ok (.invokevirtual 182, 3) := by decide +kernel
theorem dX11_foreknown_70 : decode cX11_foreknown 70 = .ok (.iload 4, 2) := by decide +kernel
theorem dX11_foreknown_72 : decode cX11_foreknown 72 = .ok (.isub, 1) := by decide +kernel
theorem dX11_foreknown_73 : decode cX11_foreknown 73 = .ok (.ireturn, 1) := by decide +kernel
theorem dX11_dearest_0 : decode cX11_dearest 0 = .ok (.aload_n 0, 1) := by decide +kernel
theorem dX11_dearest_1 : decode cX11_dearest 1 = .ok (.invokevirtual 159, 3) := by decide +kernel
theorem dX11_dearest_4 : decode cX11_dearest 4 = .ok (.istore_n 1, 1) := by decide +kernel
theorem dX11_dearest_5 : decode cX11_dearest 5 = .ok (.iload_n 1, 1) := by decide +kernel
theorem dX11_dearest_6 : decode cX11_dearest 6 = .ok (.ifCond .ne 6, 3) := by decide +kernel
theorem dX11_dearest_9 : decode cX11_dearest 9 = .ok (.bipush (-9), 2) := by decide +kernel
theorem dX11_dearest_11 : decode cX11_dearest 11 = .ok (.ireturn, 1) := by decide +kernel
theorem dX11_dearest_12 : decode cX11_dearest 12 = .ok (.bipush (-9), 2) := by decide +kernel
theorem dX11_dearest_14 : decode cX11_dearest 14 = .ok (.istore_n 2, 1) := by decide +kernel
theorem dX11_dearest_15 : decode cX11_dearest 15 = .ok (.iconst 0, 1) := by decide +kernel
theorem dX11_dearest_16 : decode cX11_dearest 16 = .ok (.istore_n 3, 1) := by decide +kernel
theorem dX11_dearest_17 : decode cX11_dearest 17 = .ok (.iconst 0, 1) := by decide +kernel
theorem dX11_dearest_18 : decode cX11_dearest 18 = .ok (.istore 4, 2) := by decide +kernel
theorem dX11_dearest_20 : decode cX11_dearest 20 = .ok (.iload 4, 2) := by decide +kernel
theorem dX11_dearest_22 : decode cX11_dearest 22 = .ok (.iconst 4, 1) := by decide +kernel
theorem dX11_dearest_23 : decode cX11_dearest 23 = .ok (.if_icmp .ge 51, 3) := by decide +kernel
theorem dX11_dearest_26 : decode cX11_dearest 26 = .ok (.aload_n 0, 1) := by decide +kernel
theorem dX11_dearest_27 : decode cX11_dearest 27 = .ok (.getfield 12, 3) := by decide +kernel
theorem dX11_dearest_30 : decode cX11_dearest 30 = .ok (.iload 4, 2) := by decide +kernel
theorem dX11_dearest_32 : decode cX11_dearest 32 = .ok (.invokevirtual 84, 3) := by decide +kernel
theorem dX11_dearest_35 : decode cX11_dearest 35 = .ok (.ifCond .ne 6, 3) := by decide +kernel
theorem dX11_dearest_38 : decode cX11_dearest 38 = .ok (.goto 30, 3) := by decide +kernel
theorem dX11_dearest_41 : decode cX11_dearest 41 = .ok (.aload_n 0, 1) := by decide +kernel
theorem dX11_dearest_42 : decode cX11_dearest 42 = .ok (.iload 4, 2) := by decide +kernel
theorem dX11_dearest_44 : decode cX11_dearest 44 = .ok (.iload_n 1, 1) := by decide +kernel
theorem dX11_dearest_45 : decode cX11_dearest 45 = .ok (.invokevirtual 215, 3) := by decide +kernel
theorem dX11_dearest_48 : decode cX11_dearest 48 = .ok (.istore 5, 2) := by decide +kernel
theorem dX11_dearest_50 : decode cX11_dearest 50 = .ok (.iload_n 2, 1) := by decide +kernel
theorem dX11_dearest_51 : decode cX11_dearest 51 = .ok (.bipush (-9), 2) := by decide +kernel
theorem dX11_dearest_53 : decode cX11_dearest 53 = .ok (.if_icmp .eq 9, 3) := by decide +kernel
theorem dX11_dearest_56 : decode cX11_dearest 56 = .ok (.iload 5, 2) := by decide +kernel
theorem dX11_dearest_58 : decode cX11_dearest 58 = .ok (.iload_n 3, 1) := by decide +kernel
theorem dX11_dearest_59 : decode cX11_dearest 59 = .ok (.if_icmp .ge 9, 3) := by decide +kernel
theorem dX11_dearest_62 : decode cX11_dearest 62 = .ok (.iload 4, 2) := by decide +kernel
theorem dX11_dearest_64 : decode cX11_dearest 64 = .ok (.istore_n 2, 1) := by decide +kernel
theorem dX11_dearest_65 : decode cX11_dearest 65 = .ok (.iload 5, 2) := by decide +kernel
theorem dX11_dearest_67 : decode cX11_dearest 67 = .ok (.istore_n 3, 1) := by decide +kernel
theorem dX11_dearest_68 : decode cX11_dearest 68 = .ok (.iinc 4 1, 3) := by decide +kernel
theorem dX11_dearest_71 : decode cX11_dearest 71 = .ok (.goto (-51), 3) := by decide +kernel
theorem dX11_dearest_74 : decode cX11_dearest 74 = .ok (.iload_n 2, 1) := by decide +kernel
theorem dX11_dearest_75 : decode cX11_dearest 75 = .ok (.ireturn, 1) := by decide +kernel
theorem dX11_who_0 : decode cX11_who 0 = .ok (.aload_n 0, 1) := by decide +kernel
theorem dX11_who_1 : decode cX11_who 1 = .ok (.getfield 12, 3) := by decide +kernel
theorem dX11_who_4 : decode cX11_who 4 = .ok (.iload_n 1, 1) := by decide +kernel
theorem dX11_who_5 : decode cX11_who 5 = .ok (.invokevirtual 163, 3) := by decide +kernel
theorem dX11_who_8 : decode cX11_who 8 = .ok (.ifCond .ne 9, 3) := by decide +kernel
theorem dX11_who_11 : decode cX11_who 11 = .ok (.aload_n 0, 1) := by decide +kernel
theorem dX11_who_12 : decode cX11_who 12 = .ok (.iconst (-1), 1) := by decide +kernel
theorem dX11_who_13 : decode cX11_who 13 = .ok (.invokevirtual 80, 3) := by decide +kernel
theorem dX11_who_16 : decode cX11_who 16 = .ok (.ireturn, 1) := by decide +kernel
theorem dX11_who_17 : decode cX11_who 17 = .ok (.iload_n 2, 1) := by decide +kernel
theorem dX11_who_18 : decode cX11_who 18 = .ok (.ifCond .eq 15, 3) := by decide +kernel
theorem dX11_who_21 : decode cX11_who 21 = .ok (.iload_n 2, 1) := by decide +kernel
theorem dX11_who_22 : decode cX11_who 22 = .ok (.iconst 1, 1) := by decide +kernel
theorem dX11_who_23 : decode cX11_who 23 = .ok (.if_icmp .eq 10, 3) := by decide +kernel
theorem dX11_who_26 : decode cX11_who 26 = .ok (.aload_n 0, 1) := by decide +kernel
theorem dX11_who_27 : decode cX11_who 27 = .ok (.bipush (-2), 2) := by decide +kernel
theorem dX11_who_29 : decode cX11_who 29 = .ok (.invokevirtual 80, 3) := by decide +kernel
theorem dX11_who_32 : decode cX11_who 32 = .ok (.ireturn, 1) := by decide +kernel
theorem dX11_who_33 : decode cX11_who 33 = .ok (.aload_n 0, 1) := by decide +kernel
theorem dX11_who_34 : decode cX11_who 34 = .ok (.invokevirtual 159, 3) := by decide +kernel
theorem dX11_who_37 : decode cX11_who 37 = .ok (.istore_n 3, 1) := by decide +kernel
theorem dX11_who_38 : decode cX11_who 38 = .ok (.iload_n 3, 1) := by decide +kernel
theorem dX11_who_39 : decode cX11_who 39 = .ok (.ifCond .ne 6, 3) := by decide +kernel
theorem dX11_who_42 : decode cX11_who 42 = .ok (.bipush (-9), 2) := by decide +kernel
theorem dX11_who_44 : decode cX11_who 44 = .ok (.ireturn, 1) := by decide +kernel
theorem dX11_who_45 : decode cX11_who 45 = .ok (.bipush (-9), 2) := by decide +kernel
theorem dX11_who_47 : decode cX11_who 47 = .ok (.istore 4, 2) := by decide +kernel
theorem dX11_who_49 : decode cX11_who 49 = .ok (.bipush (-9), 2) := by decide +kernel
theorem dX11_who_51 : decode cX11_who 51 = .ok (.istore 5, 2) := by decide +kernel
theorem dX11_who_53 : decode cX11_who 53 = .ok (.iconst 0, 1) := by decide +kernel
theorem dX11_who_54 : decode cX11_who 54 = .ok (.istore 6, 2) := by decide +kernel
theorem dX11_who_56 : decode cX11_who 56 = .ok (.iload 6, 2) := by decide +kernel
theorem dX11_who_58 : decode cX11_who 58 = .ok (.iconst 4, 1) := by decide +kernel
theorem dX11_who_59 : decode cX11_who 59 = .ok (.if_icmp .ge 52, 3) := by decide +kernel
theorem dX11_who_62 : decode cX11_who 62 = .ok (.aload_n 0, 1) := by decide +kernel
theorem dX11_who_63 : decode cX11_who 63 = .ok (.getfield 12, 3) := by decide +kernel
theorem dX11_who_66 : decode cX11_who 66 = .ok (.iload 6, 2) := by decide +kernel
theorem dX11_who_68 : decode cX11_who 68 = .ok (.invokevirtual 84, 3) := by decide +kernel
theorem dX11_who_71 : decode cX11_who 71 = .ok (.ifCond .ne 6, 3) := by decide +kernel
theorem dX11_who_74 : decode cX11_who 74 = .ok (.goto 31, 3) := by decide +kernel
theorem dX11_who_77 : decode cX11_who 77 = .ok (.aload_n 0, 1) := by decide +kernel
theorem dX11_who_78 : decode cX11_who 78 = .ok (.getfield 53, 3) := by decide +kernel
theorem dX11_who_81 : decode cX11_who 81 = .ok (.iload 6, 2) := by decide +kernel
theorem dX11_who_83 : decode cX11_who 83 = .ok (.iload_n 1, 1) := by decide +kernel
theorem dX11_who_84 : decode cX11_who 84 = .ok (.iload_n 3, 1) := by decide +kernel
theorem dX11_who_85 : decode cX11_who 85 = .ok (.invokevirtual 218, 3) := by decide +kernel
theorem dX11_who_88 : decode cX11_who 88 = .ok (.istore 7, 2) := by decide +kernel
theorem dX11_who_90 : decode cX11_who 90 = .ok (.iload 7, 2) := by decide +kernel
theorem dX11_who_92 : decode cX11_who 92 = .ok (.iload 5, 2) := by decide +kernel
theorem dX11_who_94 : decode cX11_who 94 = .ok (.if_icmp .le 11, 3) := by decide +kernel
theorem dX11_who_97 : decode cX11_who 97 = .ok (.iload 6, 2) := by decide +kernel
theorem dX11_who_99 : decode cX11_who 99 = .ok (.istore 4, 2) := by decide +kernel
theorem dX11_who_101 : decode cX11_who 101 = .ok (.iload 7, 2) := by decide +kernel
theorem dX11_who_103 : decode cX11_who 103 = .ok (.istore 5, 2) := by decide +kernel
theorem dX11_who_105 : decode cX11_who 105 = .ok (.iinc 6 1, 3) := by decide +kernel
theorem dX11_who_108 : decode cX11_who 108 = .ok (.goto (-52), 3) := by decide +kernel
theorem dX11_who_111 : decode cX11_who 111 = .ok (.iload_n 2, 1) := by decide +kernel
theorem dX11_who_112 : decode cX11_who 112 = .ok (.ifCond .ne 8, 3) := by decide +kernel
theorem dX11_who_115 : decode cX11_who 115 = .ok (.iload 4, 2) := by decide +kernel
theorem dX11_who_117 : decode cX11_who 117 = .ok (.goto 5, 3) := by decide +kernel
theorem dX11_who_120 : decode cX11_who 120 = .ok (.iload 5, 2) := by decide +kernel
theorem dX11_who_122 : decode cX11_who 122 = .ok (.ireturn, 1) := by decide +kernel
theorem dX11_none_0 : decode cX11_none 0 = .ok (.iload_n 2, 1) := by decide +kernel
theorem dX11_none_1 : decode cX11_none 1 = .ok (.ifCond .eq 15, 3) := by decide +kernel
theorem dX11_none_4 : decode cX11_none 4 = .ok (.iload_n 2, 1) := by decide +kernel
theorem dX11_none_5 : decode cX11_none 5 = .ok (.iconst 1, 1) := by decide +kernel
theorem dX11_none_6 : decode cX11_none 6 = .ok (.if_icmp .eq 10, 3) := by decide +kernel
theorem dX11_none_9 : decode cX11_none 9 = .ok (.aload_n 0, 1) := by decide +kernel
theorem dX11_none_10 : decode cX11_none 10 = .ok (.bipush (-2), 2) := by decide +kernel
theorem dX11_none_12 : decode cX11_none 12 = .ok (.invokevirtual 80, 3) := by decide +kernel
theorem dX11_none_15 : decode cX11_none 15 = .ok (.ireturn, 1) := by decide +kernel
theorem dX11_none_16 : decode cX11_none 16 = .ok (.iload_n 1, 1) := by decide +kernel
theorem dX11_none_17 : decode cX11_none 17 = .ok (.ifCond .ge 10, 3) := by decide +kernel
theorem dX11_none_20 : decode cX11_none 20 = .ok (.aload_n 0, 1) := by decide +kernel
theorem dX11_none_21 : decode cX11_none 21 = .ok (.bipush (-4), 2) := by decide +kernel
theorem dX11_none_23 : decode cX11_none 23 = .ok (.invokevirtual 80, 3) := by decide +kernel
theorem dX11_none_26 : decode cX11_none 26 = .ok (.ireturn, 1) := by decide +kernel
theorem dX11_none_27 : decode cX11_none 27 = .ok (.iload_n 1, 1) := by decide +kernel
theorem dX11_none_28 : decode cX11_none 28 = .ok (.ldc 221, 2) := by decide +kernel
theorem dX11_none_30 : decode cX11_none 30 = .ok (.if_icmp .le 10, 3) := by decide +kernel
theorem dX11_none_33 : decode cX11_none 33 = .ok (.aload_n 0, 1) := by decide +kernel
theorem dX11_none_34 : decode cX11_none 34 = .ok (.bipush (-6), 2) := by decide +kernel
theorem dX11_none_36 : decode cX11_none 36 = .ok (.invokevirtual 80, 3) := by decide +kernel
theorem dX11_none_39 : decode cX11_none 39 = .ok (.ireturn, 1) := by decide +kernel
theorem dX11_none_40 : decode cX11_none 40 = .ok (.aload_n 0, 1) := by decide +kernel
theorem dX11_none_41 : decode cX11_none 41 = .ok (.getfield 76, 3) := by decide +kernel
theorem dX11_none_44 : decode cX11_none 44 = .ok (.aload_n 0, 1) := by decide +kernel
theorem dX11_none_45 : decode cX11_none 45 = .ok (.invokevirtual 159, 3) := by decide +kernel
theorem dX11_none_48 : decode cX11_none 48 = .ok (.iload_n 1, 1) := by decide +kernel
theorem dX11_none_49 : decode cX11_none 49 = .ok (.invokevirtual 222, 3) := by decide +kernel
theorem dX11_none_52 : decode cX11_none 52 = .ok (.istore_n 3, 1) := by decide +kernel
theorem dX11_none_53 : decode cX11_none 53 = .ok (.iload_n 3, 1) := by decide +kernel
theorem dX11_none_54 : decode cX11_none 54 = .ok (.ifCond .ne 6, 3) := by decide +kernel
theorem dX11_none_57 : decode cX11_none 57 = .ok (.bipush (-9), 2) := by decide +kernel
theorem dX11_none_59 : decode cX11_none 59 = .ok (.ireturn, 1) := by decide +kernel
theorem dX11_none_60 : decode cX11_none 60 = .ok (.iload_n 2, 1) := by decide +kernel
theorem dX11_none_61 : decode cX11_none 61 = .ok (.ifCond .ne 10, 3) := by decide +kernel
theorem dX11_none_64 : decode cX11_none 64 = .ok (.iload_n 3, 1) := by decide +kernel
theorem dX11_none_65 : decode cX11_none 65 = .ok (.invokestatic 225, 3) := by decide +kernel
theorem dX11_none_68 : decode cX11_none 68 = .ok (.goto 4, 3) := by decide +kernel
theorem dX11_none_71 : decode cX11_none 71 = .ok (.iload_n 3, 1) := by decide +kernel
theorem dX11_none_72 : decode cX11_none 72 = .ok (.ireturn, 1) := by decide +kernel
theorem dX11_year_0 : decode cX11_year 0 = .ok (.aload_n 0, 1) := by decide +kernel
theorem dX11_year_1 : decode cX11_year 1 = .ok (.getfield 12, 3) := by decide +kernel
theorem dX11_year_4 : decode cX11_year 4 = .ok (.iload_n 1, 1) := by decide +kernel
theorem dX11_year_5 : decode cX11_year 5 = .ok (.invokevirtual 166, 3) := by decide +kernel
theorem dX11_year_8 : decode cX11_year 8 = .ok (.ifCond .ne 9, 3) := by decide +kernel
theorem dX11_year_11 : decode cX11_year 11 = .ok (.aload_n 0, 1) := by decide +kernel
theorem dX11_year_12 : decode cX11_year 12 = .ok (.iconst (-1), 1) := by decide +kernel
theorem dX11_year_13 : decode cX11_year 13 = .ok (.invokevirtual 80, 3) := by decide +kernel
theorem dX11_year_16 : decode cX11_year 16 = .ok (.ireturn, 1) := by decide +kernel
theorem dX11_year_17 : decode cX11_year 17 = .ok (.aload_n 0, 1) := by decide +kernel
theorem dX11_year_18 : decode cX11_year 18 = .ok (.getfield 12, 3) := by decide +kernel
theorem dX11_year_21 : decode cX11_year 21 = .ok (.getfield 230, 3) := by decide +kernel
theorem dX11_year_24 : decode cX11_year 24 = .ok (.bipush 60, 2) := by decide +kernel
theorem dX11_year_26 : decode cX11_year 26 = .ok (.if_icmp .lt 10, 3) := by decide +kernel
theorem dX11_year_29 : decode cX11_year 29 = .ok (.aload_n 0, 1) := by decide +kernel
theorem dX11_year_30 : decode cX11_year 30 = .ok (.bipush (-6), 2) := by decide +kernel
theorem dX11_year_32 : decode cX11_year 32 = .ok (.invokevirtual 80, 3) := by decide +kernel
theorem dX11_year_35 : decode cX11_year 35 = .ok (.ireturn, 1) := by decide +kernel
theorem dX11_year_36 : decode cX11_year 36 = .ok (.aload_n 0, 1) := by decide +kernel
theorem dX11_year_37 : decode cX11_year 37 = .ok (.getfield 12, 3) := by decide +kernel
theorem dX11_year_40 : decode cX11_year 40 = .ok (.getfield 233, 3) := by decide +kernel
theorem dX11_year_43 : decode cX11_year 43 = .ok (.iload_n 1, 1) := by decide +kernel
theorem dX11_year_44 : decode cX11_year 44 = .ok (.dup2, 1) := by decide +kernel
theorem dX11_year_45 : decode cX11_year 45 = .ok (.iaload, 1) := by decide +kernel
theorem dX11_year_46 : decode cX11_year 46 = .ok (.iconst 1, 1) := by decide +kernel
theorem dX11_year_47 : decode cX11_year 47 = .ok (.iadd, 1) := by decide +kernel
theorem dX11_year_48 : decode cX11_year 48 = .ok (.iastore, 1) := by decide +kernel
theorem dX11_year_49 : decode cX11_year 49 = .ok (.aload_n 0, 1) := by decide +kernel
theorem dX11_year_50 : decode cX11_year 50 = .ok (.getfield 12, 3) := by decide +kernel
theorem dX11_year_53 : decode cX11_year 53 = .ok (.dup, 1) := by decide +kernel
theorem dX11_year_54 : decode cX11_year 54 = .ok (.getfield 230, 3) := by decide +kernel
theorem dX11_year_57 : decode cX11_year 57 = .ok (.iconst 1, 1) := by decide +kernel
theorem dX11_year_58 : decode cX11_year 58 = .ok (.iadd, 1) := by decide +kernel
theorem dX11_year_59 : decode cX11_year 59 = .ok (.putfield 230, 3) := by decide +kernel
theorem dX11_year_62 : decode cX11_year 62 = .ok (.aload_n 0, 1) := by decide +kernel
theorem dX11_year_63 : decode cX11_year 63 = .ok (.getfield 12, 3) := by decide +kernel
theorem dX11_year_66 : decode cX11_year 66 = .ok (.getfield 230, 3) := by decide +kernel
theorem dX11_year_69 : decode cX11_year 69 = .ok (.ireturn, 1) := by decide +kernel
theorem dX11_out_0 : decode cX11_out 0 = .ok (.aload_n 0, 1) := by decide +kernel
theorem dX11_out_1 : decode cX11_out 1 = .ok (.getfield 12, 3) := by decide +kernel
theorem dX11_out_4 : decode cX11_out 4 = .ok (.getfield 230, 3) := by decide +kernel
theorem dX11_out_7 : decode cX11_out 7 = .ok (.aload_n 0, 1) := by decide +kernel
theorem dX11_out_8 : decode cX11_out 8 = .ok (.getfield 12, 3) := by decide +kernel
theorem dX11_out_11 : decode cX11_out 11 = .ok (.aload_n 0, 1) := by decide +kernel
theorem dX11_out_12 : decode cX11_out 12 = .ok (.invokevirtual 159, 3) := by decide +kernel
theorem dX11_out_15 : decode cX11_out 15 = .ok (.invokevirtual 236, 3) := by decide +kernel
theorem dX11_out_18 : decode cX11_out 18 = .ok (.isub, 1) := by decide +kernel
theorem dX11_out_19 : decode cX11_out 19 = .ok (.ireturn, 1) := by decide +kernel
theorem dX11_dearYears_0 : decode cX11_dearYears 0 = .ok (.aload_n 0, 1) := by decide +kernel
theorem dX11_dearYears_1 : decode cX11_dearYears 1 = .ok (.getfield 12, 3) := by decide +kernel
theorem dX11_dearYears_4 : decode cX11_dearYears 4 = .ok (.iload_n 1, 1) := by decide +kernel
theorem dX11_dearYears_5 : decode cX11_dearYears 5 = .ok (.invokevirtual 163, 3) := by decide +kernel
theorem dX11_dearYears_8 : decode cX11_dearYears 8 = .ok (.ifCond .ne 9, 3) := by decide +kernel
theorem dX11_dearYears_11 : decode cX11_dearYears 11 = .ok (.aload_n 0, 1) := by decide +kernel
theorem dX11_dearYears_12 : decode cX11_dearYears 12 = .ok (.iconst (-1), 1) := by decide +kernel
theorem dX11_dearYears_13 : decode cX11_dearYears 13 = .ok (.invokevirtual 80, 3) := by decide +kernel
theorem dX11_dearYears_16 : decode cX11_dearYears 16 = .ok (.ireturn, 1) := by decide +kernel
theorem dX11_dearYears_17 : decode cX11_dearYears 17 = .ok (.aload_n 0, 1) := by decide +kernel
theorem dX11_dearYears_18 : decode cX11_dearYears 18 = .ok (.invokevirtual 159, 3) := by decide +kernel
theorem dX11_dearYears_21 : decode cX11_dearYears 21 = .ok (.istore_n 2, 1) := by decide +kernel
theorem dX11_dearYears_22 : decode cX11_dearYears 22 = .ok (.iload_n 2, 1) := by decide +kernel
theorem dX11_dearYears_23 : decode cX11_dearYears 23 = .ok (.ifCond .ne 6, 3) := by decide +kernel
theorem dX11_dearYears_26 : decode cX11_dearYears 26 = .ok (.bipush (-9), 2) := by decide +kernel
theorem dX11_dearYears_28 : decode cX11_dearYears 28 = .ok (.ireturn, 1) := by decide +kernel
theorem dX11_dearYears_29 : decode cX11_dearYears 29 = .ok (.aload_n 0, 1) := by decide +kernel
theorem dX11_dearYears_30 : decode cX11_dearYears 30 = .ok (.getfield 60, 3) := by decide +kernel
theorem dX11_dearYears_33 : decode cX11_dearYears 33 = .ok (.iload_n 1, 1) := by decide +kernel
theorem dX11_dearYears_34 : decode cX11_dearYears 34 = .ok (.iload_n 2, 1) := by decide +kernel
theorem dX11_dearYears_35 : decode cX11_dearYears 35 = .ok (.invokevirtual 176, 3) := by decide +kernel
theorem dX11_dearYears_38 : decode cX11_dearYears 38 = .ok (.istore_n 3, 1) := by decide +kernel
theorem dX11_dearYears_39 : decode cX11_dearYears 39 = .ok (.iconst 0, 1) := by decide +kernel
theorem dX11_dearYears_40 : decode cX11_dearYears 40 = .ok (.istore 4, 2) := by decide +kernel
theorem dX11_dearYears_42 : decode cX11_dearYears 42 = .ok (.iconst 0, 1) := by decide +kernel
theorem dX11_dearYears_43 : decode cX11_dearYears 43 = .ok (.istore 5, 2) := by decide +kernel
theorem dX11_dearYears_45 : decode cX11_dearYears 45 = .ok (.iload 5, 2) := by decide +kernel
theorem dX11_dearYears_47 : decode cX11_dearYears 47 = .ok (.bipush 16, 2) := by decide +kernel
theorem dX11_dearYears_49 : decode cX11_dearYears 49 = .ok (.if_icmp .ge 47, 3) := by decide +kernel
theorem dX11_dearYears_52 : decode cX11_dearYears 52 = .ok (.aload_n 0, 1) := by decide +kernel
theorem dX11_dearYears_53 : decode cX11_dearYears 53 = .ok (.getfield 12, 3) := by decide +kernel
theorem dX11_dearYears_56 : decode cX11_dearYears 56 = .ok (.getfield 233, 3) := by decide +kernel
theorem dX11_dearYears_59 : decode cX11_dearYears 59 = .ok (.iload 5, 2) := by decide +kernel
theorem dX11_dearYears_61 : decode cX11_dearYears 61 = .ok (.iaload, 1) := by decide +kernel
theorem dX11_dearYears_62 : decode cX11_dearYears 62 = .ok (.istore 6, 2) := by decide +kernel
theorem dX11_dearYears_64 : decode cX11_dearYears 64 = .ok (.iload 6, 2) := by decide +kernel
theorem dX11_dearYears_66 : decode cX11_dearYears 66 = .ok (.ifCond .le 24, 3) := by decide +kernel
theorem dX11_dearYears_69 : decode cX11_dearYears 69 = .ok (.aload_n 0, 1) := by decide +kernel
theorem dX11_dearYears_70 : decode cX11_dearYears 70 = .ok (.getfield 60, 3) := by decide +kernel
theorem dX11_dearYears_73 : decode cX11_dearYears 73 = .ok (.iload_n 1, 1) := by decide +kernel
theorem dX11_dearYears_74 : decode cX11_dearYears 74 = .ok (.iload 5, 2) := by decide +kernel
theorem dX11_dearYears_76 : decode cX11_dearYears 76 = .ok (.invokevirtual 169, 3) := by decide +kernel
theorem dX11_dearYears_79 : decode cX11_dearYears 79 = .ok (.iload_n 3, 1) := by decide +kernel
theorem dX11_dearYears_80 : decode cX11_dearYears 80 = .ok (.if_icmp .le 10, 3) := by decide +kernel
theorem dX11_dearYears_83 : decode cX11_dearYears 83 = .ok (.iload 4, 2) := by decide +kernel
theorem dX11_dearYears_85 : decode cX11_dearYears 85 = .ok (.iload 6, 2) := by decide +kernel
theorem dX11_dearYears_87 : decode cX11_dearYears 87 = .ok (.iadd, 1) := by decide +kernel
theorem dX11_dearYears_88 : decode cX11_dearYears 88 = .ok (.istore 4, 2) := by decide +kernel
theorem dX11_dearYears_90 : decode cX11_dearYears 90 = .ok (.iinc 5 1, 3) := by decide +kernel
theorem dX11_dearYears_93 : decode cX11_dearYears 93 = .ok (.goto (-48), 3) := by decide +kernel
theorem dX11_dearYears_96 : decode cX11_dearYears 96 = .ok (.iload 4, 2) := by decide +kernel
theorem dX11_dearYears_98 : decode cX11_dearYears 98 = .ok (.ireturn, 1) := by decide +kernel
theorem dX11_drawn_0 : decode cX11_drawn 0 = .ok (.iload_n 1, 1) := by decide +kernel
theorem dX11_drawn_1 : decode cX11_drawn 1 = .ok (.ifCond .ge 10, 3) := by decide +kernel
theorem dX11_drawn_4 : decode cX11_drawn 4 = .ok (.aload_n 0, 1) := by decide +kernel
theorem dX11_drawn_5 : decode cX11_drawn 5 = .ok (.bipush (-4), 2) := by decide +kernel
theorem dX11_drawn_7 : decode cX11_drawn 7 = .ok (.invokevirtual 80, 3) := by decide +kernel
theorem dX11_drawn_10 : decode cX11_drawn 10 = .ok (.ireturn, 1) := by decide +kernel
theorem dX11_drawn_11 : decode cX11_drawn 11 = .ok (.iload_n 1, 1) := by decide +kernel
theorem dX11_drawn_12 : decode cX11_drawn 12 = .ok (.bipush 60, 2) := by decide +kernel
theorem dX11_drawn_14 : decode cX11_drawn 14 = .ok (.if_icmp .le 10, 3) := by decide +kernel
theorem dX11_drawn_17 : decode cX11_drawn 17 = .ok (.aload_n 0, 1) := by decide +kernel
theorem dX11_drawn_18 : decode cX11_drawn 18 = .ok (.bipush (-6), 2) := by decide +kernel
theorem dX11_drawn_20 : decode cX11_drawn 20 = .ok (.invokevirtual 80, 3) := by decide +kernel
theorem dX11_drawn_23 : decode cX11_drawn 23 = .ok (.ireturn, 1) := by decide +kernel
theorem dX11_drawn_24 : decode cX11_drawn 24 = .ok (.iconst 0, 1) := by decide +kernel
theorem dX11_drawn_25 : decode cX11_drawn 25 = .ok (.istore_n 2, 1) := by decide +kernel
theorem dX11_drawn_26 : decode cX11_drawn 26 = .ok (.iload_n 2, 1) := by decide +kernel
theorem dX11_drawn_27 : decode cX11_drawn 27 = .ok (.iconst 4, 1) := by decide +kernel
theorem dX11_drawn_28 : decode cX11_drawn 28 = .ok (.if_icmp .gt 30, 3) := by decide +kernel
theorem dX11_drawn_31 : decode cX11_drawn 31 = .ok (.aload_n 0, 1) := by decide +kernel
theorem dX11_drawn_32 : decode cX11_drawn 32 = .ok (.getfield 12, 3) := by decide +kernel
theorem dX11_drawn_35 : decode cX11_drawn 35 = .ok (.aload_n 0, 1) := by decide +kernel
theorem dX11_drawn_36 : decode cX11_drawn 36 = .ok (.getfield 12, 3) := by decide +kernel
theorem dX11_drawn_39 : decode cX11_drawn 39 = .ok (.iload_n 2, 1) := by decide +kernel
theorem dX11_drawn_40 : decode cX11_drawn 40 = .ok (.invokevirtual 212, 3) := by decide +kernel
theorem dX11_drawn_43 : decode cX11_drawn 43 = .ok (.invokevirtual 236, 3) := by decide +kernel
theorem dX11_drawn_46 : decode cX11_drawn 46 = .ok (.iload_n 1, 1) := by decide +kernel
theorem dX11_drawn_47 : decode cX11_drawn 47 = .ok (.if_icmp .lt 5, 3) := by decide +kernel
theorem dX11_drawn_50 : decode cX11_drawn 50 = .ok (.iload_n 2, 1) := by decide +kernel
theorem dX11_drawn_51 : decode cX11_drawn 51 = .ok (.ireturn, 1) := by decide +kernel
theorem dX11_drawn_52 : decode cX11_drawn 52 = .ok (.iinc 2 1, 3) := by decide +kernel
theorem dX11_drawn_55 : decode cX11_drawn 55 = .ok (.goto (-29), 3) := by decide +kernel
theorem dX11_drawn_58 : decode cX11_drawn 58 = .ok (.bipush (-9), 2) := by decide +kernel
theorem dX11_drawn_60 : decode cX11_drawn 60 = .ok (.ireturn, 1) := by decide +kernel
theorem dX11_image_0 : decode cX11_image 0 = .ok (.aload_n 0, 1) := by decide +kernel
theorem dX11_image_1 : decode cX11_image 1 = .ok (.getfield 16, 3) := by decide +kernel
theorem dX11_image_4 : decode cX11_image 4 = .ok (.aload_n 0, 1) := by decide +kernel
theorem dX11_image_5 : decode cX11_image 5 = .ok (.getfield 12, 3) := by decide +kernel
theorem dX11_image_8 : decode cX11_image 8 = .ok (.invokevirtual 239, 3) := by decide +kernel
theorem dX11_image_11 : decode cX11_image 11 = .ok (.aload_n 0, 1) := by decide +kernel
theorem dX11_image_12 : decode cX11_image 12 = .ok (.iconst 1, 1) := by decide +kernel
theorem dX11_image_13 : decode cX11_image 13 = .ok (.putfield 19, 3) := by decide +kernel
theorem dX11_image_16 : decode cX11_image 16 = .ok (.aload_n 0, 1) := by decide +kernel
theorem dX11_image_17 : decode cX11_image 17 = .ok (.getfield 12, 3) := by decide +kernel
theorem dX11_image_20 : decode cX11_image 20 = .ok (.getfield 88, 3) := by decide +kernel
theorem dX11_image_23 : decode cX11_image 23 = .ok (.invokestatic 225, 3) := by decide +kernel
theorem dX11_image_26 : decode cX11_image 26 = .ok (.ireturn, 1) := by decide +kernel
theorem dX11_restore_0 : decode cX11_restore 0 = .ok (.aload_n 0, 1) := by decide +kernel
theorem dX11_restore_1 : decode cX11_restore 1 = .ok (.getfield 19, 3) := by decide +kernel
theorem dX11_restore_4 : decode cX11_restore 4 = .ok (.ifCond .ne 10, 3) := by decide +kernel
theorem dX11_restore_7 : decode cX11_restore 7 = .ok (.aload_n 0, 1) := by decide +kernel
theorem dX11_restore_8 : decode cX11_restore 8 = .ok (.bipush (-3), 2) := by decide +kernel
theorem dX11_restore_10 : decode cX11_restore 10 = .ok (.invokevirtual 80, 3) := by decide +kernel
theorem dX11_restore_13 : decode cX11_restore 13 = .ok (.ireturn, 1) := by decide +kernel
theorem dX11_restore_14 : decode cX11_restore 14 = .ok (.aload_n 0, 1) := by decide +kernel
theorem dX11_restore_15 : decode cX11_restore 15 = .ok (.getfield 12, 3) := by decide +kernel
theorem dX11_restore_18 : decode cX11_restore 18 = .ok (.aload_n 0, 1) := by decide +kernel
theorem dX11_restore_19 : decode cX11_restore 19 = .ok (.getfield 16, 3) := by decide +kernel
theorem dX11_restore_22 : decode cX11_restore 22 = .ok (.invokevirtual 239, 3) := by decide +kernel
theorem dX11_restore_25 : decode cX11_restore 25 = .ok (.aload_n 0, 1) := by decide +kernel
theorem dX11_restore_26 : decode cX11_restore 26 = .ok (.getfield 26, 3) := by decide +kernel
theorem dX11_restore_29 : decode cX11_restore 29 = .ok (.iconst 0, 1) := by decide +kernel
theorem dX11_restore_30 : decode cX11_restore 30 = .ok (.putfield 107, 3) := by decide +kernel
theorem dX11_restore_33 : decode cX11_restore 33 = .ok (.aload_n 0, 1) := by decide +kernel
theorem dX11_restore_34 : decode cX11_restore 34 = .ok (.getfield 60, 3) := by decide +kernel
theorem dX11_restore_37 : decode cX11_restore 37 = .ok (.invokevirtual 91, 3) := by decide +kernel
theorem dX11_restore_40 : decode cX11_restore 40 = .ok (.aload_n 0, 1) := by decide +kernel
theorem dX11_restore_41 : decode cX11_restore 41 = .ok (.getfield 12, 3) := by decide +kernel
theorem dX11_restore_44 : decode cX11_restore 44 = .ok (.getfield 88, 3) := by decide +kernel
theorem dX11_restore_47 : decode cX11_restore 47 = .ok (.invokestatic 225, 3) := by decide +kernel
theorem dX11_restore_50 : decode cX11_restore 50 = .ok (.ireturn, 1) := by decide +kernel
theorem dX11_count_0 : decode cX11_count 0 = .ok (.iload_n 1, 1) := by decide +kernel
theorem dX11_count_1 : decode cX11_count 1 = .ok (.bipush 11, 2) := by decide +kernel
theorem dX11_count_3 : decode cX11_count 3 = .ok (.if_icmp .lt 19, 3) := by decide +kernel
theorem dX11_count_6 : decode cX11_count 6 = .ok (.iload_n 1, 1) := by decide +kernel
theorem dX11_count_7 : decode cX11_count 7 = .ok (.bipush 16, 2) := by decide +kernel
theorem dX11_count_9 : decode cX11_count 9 = .ok (.if_icmp .gt 13, 3) := by decide +kernel
theorem dX11_count_12 : decode cX11_count 12 = .ok (.aload_n 0, 1) := by decide +kernel
theorem dX11_count_13 : decode cX11_count 13 = .ok (.getfield 45, 3) := by decide +kernel
theorem dX11_count_16 : decode cX11_count 16 = .ok (.iload_n 1, 1) := by decide +kernel
theorem dX11_count_17 : decode cX11_count 17 = .ok (.bipush 10, 2) := by decide +kernel
theorem dX11_count_19 : decode cX11_count 19 = .ok (.isub, 1) := by decide +kernel
theorem dX11_count_20 : decode cX11_count 20 = .ok (.iaload, 1) := by decide +kernel
theorem dX11_count_21 : decode cX11_count 21 = .ok (.ireturn, 1) := by decide +kernel
theorem dX11_count_22 : decode cX11_count 22 = .ok (.iload_n 1, 1) := by decide +kernel
theorem dX11_count_23 : decode cX11_count 23 = .ok (.tableswitch 124 0 8 #[49, 60, 68, 79, 87, 95, 103, 111, 116], 49) := by decide +kernel
theorem dX11_count_72 : decode cX11_count 72 = .ok (.aload_n 0, 1) := by decide +kernel
theorem dX11_count_73 : decode cX11_count 73 = .ok (.getfield 12, 3) := by decide +kernel
theorem dX11_count_76 : decode cX11_count 76 = .ok (.getfield 88, 3) := by decide +kernel
theorem dX11_count_79 : decode cX11_count 79 = .ok (.invokestatic 225, 3) := by decide +kernel
theorem dX11_count_82 : decode cX11_count 82 = .ok (.ireturn, 1) := by decide +kernel
theorem dX11_count_83 : decode cX11_count 83 = .ok (.aload_n 0, 1) := by decide +kernel
theorem dX11_count_84 : decode cX11_count 84 = .ok (.getfield 12, 3) := by decide +kernel
theorem dX11_count_87 : decode cX11_count 87 = .ok (.getfield 124, 3) := by decide +kernel
theorem dX11_count_90 : decode cX11_count 90 = .ok (.ireturn, 1) := by decide +kernel
theorem dX11_count_91 : decode cX11_count 91 = .ok (.aload_n 0, 1) := by decide +kernel
theorem dX11_count_92 : decode cX11_count 92 = .ok (.getfield 12, 3) := by decide +kernel
theorem dX11_count_95 : decode cX11_count 95 = .ok (.getfield 139, 3) := by decide +kernel
theorem dX11_count_98 : decode cX11_count 98 = .ok (.invokestatic 225, 3) := by decide +kernel
theorem dX11_count_101 : decode cX11_count 101 = .ok (.ireturn, 1) := by decide +kernel
theorem dX11_count_102 : decode cX11_count 102 = .ok (.aload_n 0, 1) := by decide +kernel
theorem dX11_count_103 : decode cX11_count 103 = .ok (.getfield 12, 3) := by decide +kernel
theorem dX11_count_106 : decode cX11_count 106 = .ok (.invokevirtual 242, 3) := by decide +kernel
theorem dX11_count_109 : decode cX11_count 109 = .ok (.ireturn, 1) := by decide +kernel
theorem dX11_count_110 : decode cX11_count 110 = .ok (.aload_n 0, 1) := by decide +kernel
theorem dX11_count_111 : decode cX11_count 111 = .ok (.invokevirtual 159, 3) := by decide +kernel
theorem dX11_count_114 : decode cX11_count 114 = .ok (.invokestatic 225, 3) := by decide +kernel
theorem dX11_count_117 : decode cX11_count 117 = .ok (.ireturn, 1) := by decide +kernel
theorem dX11_count_118 : decode cX11_count 118 = .ok (.aload_n 0, 1) := by decide +kernel
theorem dX11_count_119 : decode cX11_count 119 = .ok (.getfield 12, 3) := by decide +kernel
theorem dX11_count_122 : decode cX11_count 122 = .ok (.getfield 230, 3) := by decide +kernel
theorem dX11_count_125 : decode cX11_count 125 = .ok (.ireturn, 1) := by decide +kernel
theorem dX11_count_126 : decode cX11_count 126 = .ok (.aload_n 0, 1) := by decide +kernel
theorem dX11_count_127 : decode cX11_count 127 = .ok (.getfield 33, 3) := by decide +kernel
theorem dX11_count_130 : decode cX11_count 130 = .ok (.getfield 117, 3) := by decide +kernel
theorem dX11_count_133 : decode cX11_count 133 = .ok (.ireturn, 1) := by decide +kernel
theorem dX11_count_134 : decode cX11_count 134 = .ok (.aload_n 0, 1) := by decide +kernel
theorem dX11_count_135 : decode cX11_count 135 = .ok (.getfield 41, 3) := by decide +kernel
theorem dX11_count_138 : decode cX11_count 138 = .ok (.ireturn, 1) := by decide +kernel
theorem dX11_count_139 : decode cX11_count 139 = .ok (.aload_n 0, 1) := by decide +kernel
theorem dX11_count_140 : decode cX11_count 140 = .ok (.getfield 26, 3) := by decide +kernel
theorem dX11_count_143 : decode cX11_count 143 = .ok (.getfield 107, 3) := by decide +kernel
theorem dX11_count_146 : decode cX11_count 146 = .ok (.ireturn, 1) := by decide +kernel
theorem dX11_count_147 : decode cX11_count 147 = .ok (.bipush (-9), 2) := by decide +kernel
theorem dX11_count_149 : decode cX11_count 149 = .ok (.ireturn, 1) := by decide +kernel
theorem dX11_refuse_0 : decode cX11_refuse 0 = .ok (.iload_n 1, 1) := by decide +kernel
theorem dX11_refuse_1 : decode cX11_refuse 1 = .ok (.ineg, 1) := by decide +kernel
theorem dX11_refuse_2 : decode cX11_refuse 2 = .ok (.istore_n 2, 1) := by decide +kernel
theorem dX11_refuse_3 : decode cX11_refuse 3 = .ok (.iload_n 2, 1) := by decide +kernel
theorem dX11_refuse_4 : decode cX11_refuse 4 = .ok (.iconst 1, 1) := by decide +kernel
theorem dX11_refuse_5 : decode cX11_refuse 5 = .ok (.if_icmp .lt 22, 3) := by decide +kernel
theorem dX11_refuse_8 : decode cX11_refuse 8 = .ok (.iload_n 2, 1) := by decide +kernel
theorem dX11_refuse_9 : decode cX11_refuse 9 = .ok (.aload_n 0, 1) := by decide +kernel
theorem dX11_refuse_10 : decode cX11_refuse 10 = .ok (.getfield 45, 3) := by decide +kernel
theorem dX11_refuse_13 : decode cX11_refuse 13 = .ok (.arraylength, 1) := by decide +kernel
theorem dX11_refuse_14 : decode cX11_refuse 14 = .ok (.if_icmp .ge 13, 3) := by decide +kernel
theorem dX11_refuse_17 : decode cX11_refuse 17 = .ok (.aload_n 0, 1) := by decide +kernel
theorem dX11_refuse_18 : decode cX11_refuse 18 = .ok (.getfield 45, 3) := by decide +kernel
theorem dX11_refuse_21 : decode cX11_refuse 21 = .ok (.iload_n 2, 1) := by decide +kernel
theorem dX11_refuse_22 : decode cX11_refuse 22 = .ok (.dup2, 1) := by decide +kernel
theorem dX11_refuse_23 : decode cX11_refuse 23 = .ok (.iaload, 1) := by decide +kernel
theorem dX11_refuse_24 : decode cX11_refuse 24 = .ok (.iconst 1, 1) := by decide +kernel
theorem dX11_refuse_25 : decode cX11_refuse 25 = .ok (.iadd, 1) := by decide +kernel
theorem dX11_refuse_26 : decode cX11_refuse 26 = .ok (.iastore, 1) := by decide +kernel
theorem dX11_refuse_27 : decode cX11_refuse 27 = .ok (.iload_n 1, 1) := by decide +kernel
theorem dX11_refuse_28 : decode cX11_refuse 28 = .ok (.ireturn, 1) := by decide +kernel
theorem dX11_change_0 : decode cX11_change 0 = .ok (.iload_n 2, 1) := by decide +kernel
theorem dX11_change_1 : decode cX11_change 1 = .ok (.iload_n 3, 1) := by decide +kernel
theorem dX11_change_2 : decode cX11_change 2 = .ok (.if_icmp .ge 10, 3) := by decide +kernel
theorem dX11_change_5 : decode cX11_change 5 = .ok (.aload_n 0, 1) := by decide +kernel
theorem dX11_change_6 : decode cX11_change 6 = .ok (.bipush (-4), 2) := by decide +kernel
theorem dX11_change_8 : decode cX11_change 8 = .ok (.invokevirtual 80, 3) := by decide +kernel
theorem dX11_change_11 : decode cX11_change 11 = .ok (.ireturn, 1) := by decide +kernel
theorem dX11_change_12 : decode cX11_change 12 = .ok (.iload_n 2, 1) := by decide +kernel
theorem dX11_change_13 : decode cX11_change 13 = .ok (.iload 4, 2) := by decide +kernel
theorem dX11_change_15 : decode cX11_change 15 = .ok (.if_icmp .le 10, 3) := by decide +kernel
theorem dX11_change_18 : decode cX11_change 18 = .ok (.aload_n 0, 1) := by decide +kernel
theorem dX11_change_19 : decode cX11_change 19 = .ok (.bipush (-6), 2) := by decide +kernel
theorem dX11_change_21 : decode cX11_change 21 = .ok (.invokevirtual 80, 3) := by decide +kernel
theorem dX11_change_24 : decode cX11_change 24 = .ok (.ireturn, 1) := by decide +kernel
theorem dX11_change_25 : decode cX11_change 25 = .ok (.aload_n 0, 1) := by decide +kernel
theorem dX11_change_26 : decode cX11_change 26 = .ok (.getfield 12, 3) := by decide +kernel
theorem dX11_change_29 : decode cX11_change 29 = .ok (.getfield 110, 3) := by decide +kernel
theorem dX11_change_32 : decode cX11_change 32 = .ok (.iload_n 1, 1) := by decide +kernel
theorem dX11_change_33 : decode cX11_change 33 = .ok (.iaload, 1) := by decide +kernel
theorem dX11_change_34 : decode cX11_change 34 = .ok (.istore 5, 2) := by decide +kernel
theorem dX11_change_36 : decode cX11_change 36 = .ok (.aload_n 0, 1) := by decide +kernel
theorem dX11_change_37 : decode cX11_change 37 = .ok (.getfield 26, 3) := by decide +kernel
theorem dX11_change_40 : decode cX11_change 40 = .ok (.iload_n 1, 1) := by decide +kernel
theorem dX11_change_41 : decode cX11_change 41 = .ok (.iload 5, 2) := by decide +kernel
theorem dX11_change_43 : decode cX11_change 43 = .ok (.invokevirtual 245, 3) := by decide +kernel
theorem dX11_change_46 : decode cX11_change 46 = .ok (.aload_n 0, 1) := by decide +kernel
theorem dX11_change_47 : decode cX11_change 47 = .ok (.getfield 12, 3) := by decide +kernel
theorem dX11_change_50 : decode cX11_change 50 = .ok (.getfield 110, 3) := by decide +kernel
theorem dX11_change_53 : decode cX11_change 53 = .ok (.iload_n 1, 1) := by decide +kernel
theorem dX11_change_54 : decode cX11_change 54 = .ok (.iload_n 2, 1) := by decide +kernel
theorem dX11_change_55 : decode cX11_change 55 = .ok (.iastore, 1) := by decide +kernel
theorem dX11_change_56 : decode cX11_change 56 = .ok (.iload_n 2, 1) := by decide +kernel
theorem dX11_change_57 : decode cX11_change 57 = .ok (.iload 5, 2) := by decide +kernel
theorem dX11_change_59 : decode cX11_change 59 = .ok (.if_icmp .eq 16, 3) := by decide +kernel
theorem dX11_change_62 : decode cX11_change 62 = .ok (.iload_n 1, 1) := by decide +kernel
theorem dX11_change_63 : decode cX11_change 63 = .ok (.bipush 42, 2) := by decide +kernel
theorem dX11_change_65 : decode cX11_change 65 = .ok (.if_icmp .eq 10, 3) := by decide +kernel
theorem dX11_change_68 : decode cX11_change 68 = .ok (.aload_n 0, 1) := by decide +kernel
theorem dX11_change_69 : decode cX11_change 69 = .ok (.getfield 60, 3) := by decide +kernel
theorem dX11_change_72 : decode cX11_change 72 = .ok (.invokevirtual 91, 3) := by decide +kernel
theorem dX11_change_75 : decode cX11_change 75 = .ok (.iload 5, 2) := by decide +kernel
theorem dX11_change_77 : decode cX11_change 77 = .ok (.ireturn, 1) := by decide +kernel
theorem dX11_theSet_0 : decode cX11_theSet 0 = .ok (.aload_n 0, 1) := by decide +kernel
theorem dX11_theSet_1 : decode cX11_theSet 1 = .ok (.getfield 12, 3) := by decide +kernel
theorem dX11_theSet_4 : decode cX11_theSet 4 = .ok (.aload_n 0, 1) := by decide +kernel
theorem dX11_theSet_5 : decode cX11_theSet 5 = .ok (.getfield 12, 3) := by decide +kernel
theorem dX11_theSet_8 : decode cX11_theSet 8 = .ok (.getfield 110, 3) := by decide +kernel
theorem dX11_theSet_11 : decode cX11_theSet 11 = .ok (.bipush 42, 2) := by decide +kernel
theorem dX11_theSet_13 : decode cX11_theSet 13 = .ok (.iaload, 1) := by decide +kernel
theorem dX11_theSet_14 : decode cX11_theSet 14 = .ok (.invokevirtual 212, 3) := by decide +kernel
theorem dX11_theSet_17 : decode cX11_theSet 17 = .ok (.ireturn, 1) := by decide +kernel
theorem dX11_costWithWord_0 : decode cX11_costWithWord 0 = .ok (.iload_n 2, 1) := by decide +kernel
theorem dX11_costWithWord_1 : decode cX11_costWithWord 1 = .ok (.iconst 1, 1) := by decide +kernel
theorem dX11_costWithWord_2 : decode cX11_costWithWord 2 = .ok (.iload_n 1, 1) := by decide +kernel
theorem dX11_costWithWord_3 : decode cX11_costWithWord 3 = .ok (.ishl, 1) := by decide +kernel
theorem dX11_costWithWord_4 : decode cX11_costWithWord 4 = .ok (.iconst 1, 1) := by decide +kernel
theorem dX11_costWithWord_5 : decode cX11_costWithWord 5 = .ok (.iload_n 1, 1) := by decide +kernel
theorem dX11_costWithWord_6 : decode cX11_costWithWord 6 = .ok (.ishl, 1) := by decide +kernel
theorem dX11_costWithWord_7 : decode cX11_costWithWord 7 = .ok (.invokestatic 208, 3) := by decide +kernel
theorem dX11_costWithWord_10 : decode cX11_costWithWord 10 = .ok (.istore_n 3, 1) := by decide +kernel
theorem dX11_costWithWord_11 : decode cX11_costWithWord 11 = .ok (.aload_n 0, 1) := by decide +kernel
theorem dX11_costWithWord_12 : decode cX11_costWithWord 12 = .ok (.getfield 60, 3) := by decide +kernel
theorem dX11_costWithWord_15 : decode cX11_costWithWord 15 = .ok (.iload_n 3, 1) := by decide +kernel
theorem dX11_costWithWord_16 : decode cX11_costWithWord 16 = .ok (.invokevirtual 182, 3) := by decide +kernel
theorem dX11_costWithWord_19 : decode cX11_costWithWord 19 = .ok (.aload_n 0, 1) := by decide +kernel
theorem dX11_costWithWord_20 : decode cX11_costWithWord 20 = .ok (.getfield 60, 3) := by decide +kernel
theorem dX11_costWithWord_23 : decode cX11_costWithWord 23 = .ok (.iload_n 2, 1) := by decide +kernel
theorem dX11_costWithWord_24 : decode cX11_costWithWord 24 = .ok (.iload_n 3, 1) := by decide +kernel
theorem dX11_costWithWord_25 : decode cX11_costWithWord 25 = .ok (.iconst (-1), 1) := by decide +kernel
theorem dX11_costWithWord_26 : decode cX11_costWithWord 26 = .ok (.ixor, 1) := by decide +kernel
theorem dX11_costWithWord_27 : decode cX11_costWithWord 27 = .ok (.iand, 1) := by decide +kernel
theorem dX11_costWithWord_28 : decode cX11_costWithWord 28 = .ok (.invokevirtual 182, 3) := by decide +kernel
theorem dX11_costWithWord_31 : decode cX11_costWithWord 31 = .ok (.invokestatic 248, 3) := by decide +kernel
theorem dX11_costWithWord_34 : decode cX11_costWithWord 34 = .ok (.ireturn, 1) := by decide +kernel
theorem dX11_alike_0 : decode cX11_alike 0 = .ok (.iconst 0, 1) := by decide +kernel
theorem dX11_alike_1 : decode cX11_alike 1 = .ok (.istore_n 3, 1) := by decide +kernel
theorem dX11_alike_2 : decode cX11_alike 2 = .ok (.iconst 0, 1) := by decide +kernel
theorem dX11_alike_3 : decode cX11_alike 3 = .ok (.istore 4, 2) := by decide +kernel
theorem dX11_alike_5 : decode cX11_alike 5 = .ok (.iload 4, 2) := by decide +kernel
theorem dX11_alike_7 : decode cX11_alike 7 = .ok (.bipush 16, 2) := by decide +kernel
theorem dX11_alike_9 : decode cX11_alike 9 = .ok (.if_icmp .ge 25, 3) := by decide +kernel
theorem dX11_alike_12 : decode cX11_alike 12 = .ok (.iload 4, 2) := by decide +kernel
theorem dX11_alike_14 : decode cX11_alike 14 = .ok (.iload_n 1, 1) := by decide +kernel
theorem dX11_alike_15 : decode cX11_alike 15 = .ok (.ixor, 1) := by decide +kernel
theorem dX11_alike_16 : decode cX11_alike 16 = .ok (.iload_n 2, 1) := by decide +kernel
theorem dX11_alike_17 : decode cX11_alike 17 = .ok (.iand, 1) := by decide +kernel
theorem dX11_alike_18 : decode cX11_alike 18 = .ok (.ifCond .ne 10, 3) := by decide +kernel
theorem dX11_alike_21 : decode cX11_alike 21 = .ok (.iload_n 3, 1) := by decide +kernel
theorem dX11_alike_22 : decode cX11_alike 22 = .ok (.iconst 1, 1) := by decide +kernel
theorem dX11_alike_23 : decode cX11_alike 23 = .ok (.iload 4, 2) := by decide +kernel
theorem dX11_alike_25 : decode cX11_alike 25 = .ok (.ishl, 1) := by decide +kernel
theorem dX11_alike_26 : decode cX11_alike 26 = .ok (.ior, 1) := by decide +kernel
theorem dX11_alike_27 : decode cX11_alike 27 = .ok (.istore_n 3, 1) := by decide +kernel
theorem dX11_alike_28 : decode cX11_alike 28 = .ok (.iinc 4 1, 3) := by decide +kernel
theorem dX11_alike_31 : decode cX11_alike 31 = .ok (.goto (-26), 3) := by decide +kernel
theorem dX11_alike_34 : decode cX11_alike 34 = .ok (.iload_n 0, 1) := by decide +kernel
theorem dX11_alike_35 : decode cX11_alike 35 = .ok (.iload_n 3, 1) := by decide +kernel
theorem dX11_alike_36 : decode cX11_alike 36 = .ok (.iand, 1) := by decide +kernel
theorem dX11_alike_37 : decode cX11_alike 37 = .ok (.ireturn, 1) := by decide +kernel
theorem dX12_init_0 : decode cX12_init 0 = .ok (.aload_n 0, 1) := by decide +kernel
theorem dX12_init_1 : decode cX12_init 1 = .ok (.invokespecial 1, 3) := by decide +kernel
theorem dX12_init_4 : decode cX12_init 4 = .ok (.aload_n 0, 1) := by decide +kernel
theorem dX12_init_5 : decode cX12_init 5 = .ok (.bipush 7, 2) := by decide +kernel
theorem dX12_init_7 : decode cX12_init 7 = .ok (.newarray .int, 2) := by decide +kernel
theorem dX12_init_9 : decode cX12_init 9 = .ok (.putfield 7, 3) := by decide +kernel
theorem dX12_init_12 : decode cX12_init 12 = .ok (.aload_n 0, 1) := by decide +kernel
theorem dX12_init_13 : decode cX12_init 13 = .ok (.bipush 47, 2) := by decide +kernel
theorem dX12_init_15 : decode cX12_init 15 = .ok (.newarray .int, 2) := by decide +kernel
theorem dX12_init_17 : decode cX12_init 17 = .ok (.putfield 13, 3) := by decide +kernel
theorem dX12_init_20 : decode cX12_init 20 = .ok (.aload_n 0, 1) := by decide +kernel
theorem dX12_init_21 : decode cX12_init 21 = .ok (.bipush 40, 2) := by decide +kernel
theorem dX12_init_23 : decode cX12_init 23 = .ok (.newarray .int, 2) := by decide +kernel
theorem dX12_init_25 : decode cX12_init 25 = .ok (.putfield 16, 3) := by decide +kernel
theorem dX12_init_28 : decode cX12_init 28 = .ok (.aload_n 0, 1) := by decide +kernel
theorem dX12_init_29 : decode cX12_init 29 = .ok (.bipush 40, 2) := by decide +kernel
theorem dX12_init_31 : decode cX12_init 31 = .ok (.newarray .int, 2) := by decide +kernel
theorem dX12_init_33 : decode cX12_init 33 = .ok (.putfield 19, 3) := by decide +kernel
theorem dX12_init_36 : decode cX12_init 36 = .ok (.aload_n 0, 1) := by decide +kernel
theorem dX12_init_37 : decode cX12_init 37 = .ok (.bipush 40, 2) := by decide +kernel
theorem dX12_init_39 : decode cX12_init 39 = .ok (.newarray .int, 2) := by decide +kernel
theorem dX12_init_41 : decode cX12_init 41 = .ok (.putfield 22, 3) := by decide +kernel
theorem dX12_init_44 : decode cX12_init 44 = .ok (.aload_n 0, 1) := by decide +kernel
theorem dX12_init_45 : decode cX12_init 45 = .ok (.sipush 480, 3) := by decide +kernel
theorem dX12_init_48 : decode cX12_init 48 = .ok (.newarray .int, 2) := by decide +kernel
theorem dX12_init_50 : decode cX12_init 50 = .ok (.putfield 25, 3) := by decide +kernel
theorem dX12_init_53 : decode cX12_init 53 = .ok (.aload_n 0, 1) := by decide +kernel
theorem dX12_init_54 : decode cX12_init 54 = .ok (.bipush 12, 2) := by decide +kernel
theorem dX12_init_56 : decode cX12_init 56 = .ok (.newarray .int, 2) := by decide +kernel
theorem dX12_init_58 : decode cX12_init 58 = .ok (.putfield 28, 3) := by decide +kernel
theorem dX12_init_61 : decode cX12_init 61 = .ok (.aload_n 0, 1) := by decide +kernel
theorem dX12_init_62 : decode cX12_init 62 = .ok (.sipush 160, 3) := by decide +kernel
theorem dX12_init_65 : decode cX12_init 65 = .ok (.newarray .int, 2) := by decide +kernel
theorem dX12_init_67 : decode cX12_init 67 = .ok (.putfield 31, 3) := by decide +kernel
theorem dX12_init_70 : decode cX12_init 70 = .ok (.aload_n 0, 1) := by decide +kernel
theorem dX12_init_71 : decode cX12_init 71 = .ok (.iconst 4, 1) := by decide +kernel
theorem dX12_init_72 : decode cX12_init 72 = .ok (.newarray .int, 2) := by decide +kernel
theorem dX12_init_74 : decode cX12_init 74 = .ok (.putfield 34, 3) := by decide +kernel
theorem dX12_init_77 : decode cX12_init 77 = .ok (.aload_n 0, 1) := by decide +kernel
theorem dX12_init_78 : decode cX12_init 78 = .ok (.bipush 8, 2) := by decide +kernel
theorem dX12_init_80 : decode cX12_init 80 = .ok (.newarray .int, 2) := by decide +kernel
theorem dX12_init_82 : decode cX12_init 82 = .ok (.putfield 37, 3) := by decide +kernel
theorem dX12_init_85 : decode cX12_init 85 = .ok (.aload_n 0, 1) := by decide +kernel
theorem dX12_init_86 : decode cX12_init 86 = .ok (.bipush 12, 2) := by decide +kernel
theorem dX12_init_88 : decode cX12_init 88 = .ok (.newarray .boolean, 2) := by decide +kernel
theorem dX12_init_90 : decode cX12_init 90 = .ok (.putfield 40, 3) := by decide +kernel
theorem dX12_init_93 : decode cX12_init 93 = .ok (.aload_n 0, 1) := by decide +kernel
theorem dX12_init_94 : decode cX12_init 94 = .ok (.iconst 4, 1) := by decide +kernel
theorem dX12_init_95 : decode cX12_init 95 = .ok (.newarray .boolean, 2) := by decide +kernel
theorem dX12_init_97 : decode cX12_init 97 = .ok (.putfield 44, 3) := by decide +kernel
theorem dX12_init_100 : decode cX12_init 100 = .ok (.aload_n 0, 1) := by decide +kernel
theorem dX12_init_101 : decode cX12_init 101 = .ok (.bipush 44, 2) := by decide +kernel
theorem dX12_init_103 : decode cX12_init 103 = .ok (.newarray .int, 2) := by decide +kernel
theorem dX12_init_105 : decode cX12_init 105 = .ok (.putfield 47, 3) := by decide +kernel
theorem dX12_init_108 : decode cX12_init 108 = .ok (.aload_n 0, 1) := by decide +kernel
theorem dX12_init_109 : decode cX12_init 109 = .ok (.bipush 44, 2) := by decide +kernel
theorem dX12_init_111 : decode cX12_init 111 = .ok (.newarray .int, 2) := by decide +kernel
theorem dX12_init_113 : decode cX12_init 113 = .ok (.putfield 50, 3) := by decide +kernel
theorem dX12_init_116 : decode cX12_init 116 = .ok (.aload_n 0, 1) := by decide +kernel
theorem dX12_init_117 : decode cX12_init 117 = .ok (.iconst 4, 1) := by decide +kernel
theorem dX12_init_118 : decode cX12_init 118 = .ok (.newarray .int, 2) := by decide +kernel
theorem dX12_init_120 : decode cX12_init 120 = .ok (.putfield 53, 3) := by decide +kernel
theorem dX12_init_123 : decode cX12_init 123 = .ok (.aload_n 0, 1) := by decide +kernel
theorem dX12_init_124 : decode cX12_init 124 = .ok (.iconst 4, 1) := by decide +kernel
theorem dX12_init_125 : decode cX12_init 125 = .ok (.newarray .int, 2) := by decide +kernel
theorem dX12_init_127 : decode cX12_init 127 = .ok (.putfield 56, 3) := by decide +kernel
theorem dX12_init_130 : decode cX12_init 130 = .ok (.aload_n 0, 1) := by decide +kernel
theorem dX12_init_131 : decode cX12_init 131 = .ok (.iconst 4, 1) := by decide +kernel
theorem dX12_init_132 : decode cX12_init 132 = .ok (.newarray .int, 2) := by decide +kernel
theorem dX12_init_134 : decode cX12_init 134 = .ok (.putfield 59, 3) := by decide +kernel
theorem dX12_init_137 : decode cX12_init 137 = .ok (.aload_n 0, 1) := by decide +kernel
theorem dX12_init_138 : decode cX12_init 138 = .ok (.sipush 4096, 3) := by decide +kernel
theorem dX12_init_141 : decode cX12_init 141 = .ok (.newarray .int, 2) := by decide +kernel
theorem dX12_init_143 : decode cX12_init 143 = .ok (.putfield 62, 3) := by decide +kernel
theorem dX12_init_146 : decode cX12_init 146 = .ok (.aload_n 0, 1) := by decide +kernel
theorem dX12_init_147 : decode cX12_init 147 = .ok (.bipush 16, 2) := by decide +kernel
theorem dX12_init_149 : decode cX12_init 149 = .ok (.newarray .boolean, 2) := by decide +kernel
theorem dX12_init_151 : decode cX12_init 151 = .ok (.putfield 65, 3) := by decide +kernel
theorem dX12_init_154 : decode cX12_init 154 = .ok (.aload_n 0, 1) := by decide +kernel
theorem dX12_init_155 : decode cX12_init 155 = .ok (.sipush 256, 3) := by decide +kernel
theorem dX12_init_158 : decode cX12_init 158 = .ok (.newarray .boolean, 2) := by decide +kernel
theorem dX12_init_160 : decode cX12_init 160 = .ok (.putfield 68, 3) := by decide +kernel
theorem dX12_init_163 : decode cX12_init 163 = .ok (.aload_n 0, 1) := by decide +kernel
theorem dX12_init_164 : decode cX12_init 164 = .ok (.bipush 16, 2) := by decide +kernel
theorem dX12_init_166 : decode cX12_init 166 = .ok (.newarray .boolean, 2) := by decide +kernel
theorem dX12_init_168 : decode cX12_init 168 = .ok (.putfield 71, 3) := by decide +kernel
theorem dX12_init_171 : decode cX12_init 171 = .ok (.aload_n 0, 1) := by decide +kernel
theorem dX12_init_172 : decode cX12_init 172 = .ok (.bipush 16, 2) := by decide +kernel
theorem dX12_init_174 : decode cX12_init 174 = .ok (.newarray .boolean, 2) := by decide +kernel
theorem dX12_init_176 : decode cX12_init 176 = .ok (.putfield 74, 3) := by decide +kernel
theorem dX12_init_179 : decode cX12_init 179 = .ok (.aload_n 0, 1) := by decide +kernel
theorem dX12_init_180 : decode cX12_init 180 = .ok (.bipush 12, 2) := by decide +kernel
theorem dX12_init_182 : decode cX12_init 182 = .ok (.newarray .int, 2) := by decide +kernel
theorem dX12_init_184 : decode cX12_init 184 = .ok (.putfield 77, 3) := by decide +kernel
theorem dX12_init_187 : decode cX12_init 187 = .ok (.aload_n 0, 1) := by decide +kernel
theorem dX12_init_188 : decode cX12_init 188 = .ok (.bipush 60, 2) := by decide +kernel
theorem dX12_init_190 : decode cX12_init 190 = .ok (.newarray .int, 2) := by decide +kernel
theorem dX12_init_192 : decode cX12_init 192 = .ok (.putfield 80, 3) := by decide +kernel
theorem dX12_init_195 : decode cX12_init 195 = .ok (.aload_n 0, 1) := by decide +kernel
theorem dX12_init_196 : decode cX12_init 196 = .ok (.bipush 47, 2) := by decide +kernel
theorem dX12_init_198 : decode cX12_init 198 = .ok (.newarray .int, 2) := by decide +kernel
theorem dX12_init_200 : decode cX12_init 200 = .ok (.putfield 83, 3) := by decide +kernel
theorem dX12_init_203 : decode cX12_init 203 = .ok (.aload_n 0, 1) := by decide +kernel
theorem dX12_init_204 : decode cX12_init 204 = .ok (.sipush 480, 3) := by decide +kernel
theorem dX12_init_207 : decode cX12_init 207 = .ok (.newarray .int, 2) := by decide +kernel
theorem dX12_init_209 : decode cX12_init 209 = .ok (.putfield 86, 3) := by decide +kernel
theorem dX12_init_212 : decode cX12_init 212 = .ok (.aload_n 0, 1) := by decide +kernel
theorem dX12_init_213 : decode cX12_init 213 = .ok (.bipush 12, 2) := by decide +kernel
theorem dX12_init_215 : decode cX12_init 215 = .ok (.newarray .int, 2) := by decide +kernel
theorem dX12_init_217 : decode cX12_init 217 = .ok (.putfield 89, 3) := by decide +kernel
theorem dX12_init_220 : decode cX12_init 220 = .ok (.aload_n 0, 1) := by decide +kernel
theorem dX12_init_221 : decode cX12_init 221 = .ok (.sipush 160, 3) := by decide +kernel
theorem dX12_init_224 : decode cX12_init 224 = .ok (.newarray .int, 2) := by decide +kernel
theorem dX12_init_226 : decode cX12_init 226 = .ok (.putfield 92, 3) := by decide +kernel
theorem dX12_init_229 : decode cX12_init 229 = .ok (.aload_n 0, 1) := by decide +kernel
theorem dX12_init_230 : decode cX12_init 230 = .ok (.iconst 4, 1) := by decide +kernel
theorem dX12_init_231 : decode cX12_init 231 = .ok (.newarray .int, 2) := by decide +kernel
theorem dX12_init_233 : decode cX12_init 233 = .ok (.putfield 95, 3) := by decide +kernel
theorem dX12_init_236 : decode cX12_init 236 = .ok (.aload_n 0, 1) := by decide +kernel
theorem dX12_init_237 : decode cX12_init 237 = .ok (.bipush 60, 2) := by decide +kernel
theorem dX12_init_239 : decode cX12_init 239 = .ok (.newarray .int, 2) := by decide +kernel
theorem dX12_init_241 : decode cX12_init 241 = .ok (.putfield 98, 3) := by decide +kernel
theorem dX12_init_244 : decode cX12_init 244 = .ok (.aload_n 0, 1) := by decide +kernel
theorem dX12_init_245 : decode cX12_init 245 = .ok (.bipush 12, 2) := by decide +kernel
theorem dX12_init_247 : decode cX12_init 247 = .ok (.newarray .boolean, 2) := by decide +kernel
theorem dX12_init_249 : decode cX12_init 249 = .ok (.putfield 101, 3) := by decide +kernel
theorem dX12_init_252 : decode cX12_init 252 = .ok (.aload_n 0, 1) := by decide +kernel
theorem dX12_init_253 : decode cX12_init 253 = .ok (.iconst 4, 1) := by decide +kernel
theorem dX12_init_254 : decode cX12_init 254 = .ok (.newarray .boolean, 2) := by decide +kernel
theorem dX12_init_256 : decode cX12_init 256 = .ok (.putfield 104, 3) := by decide +kernel
theorem dX12_init_259 : decode cX12_init 259 = .ok (.iconst 0, 1) := by decide +kernel
theorem dX12_init_260 : decode cX12_init 260 = .ok (.istore_n 1, 1) := by decide +kernel
theorem dX12_init_261 : decode cX12_init 261 = .ok (.iload_n 1, 1) := by decide +kernel
theorem dX12_init_262 : decode cX12_init 262 = .ok (.bipush 16, 2) := by decide +kernel
theorem dX12_init_264 : decode cX12_init 264 = .ok (.if_icmp .ge 20, 3) := by decide +kernel
theorem dX12_init_267 : decode cX12_init 267 = .ok (.aload_n 0, 1) := by decide +kernel
theorem dX12_init_268 : decode cX12_init 268 = .ok (.getfield 13, 3) := by decide +kernel
theorem dX12_init_271 : decode cX12_init 271 = .ok (.bipush 24, 2) := by decide +kernel
theorem dX12_init_273 : decode cX12_init 273 = .ok (.iload_n 1, 1) := by decide +kernel
theorem dX12_init_274 : decode cX12_init 274 = .ok (.iadd, 1) := by decide +kernel
theorem dX12_init_275 : decode cX12_init 275 = .ok (.bipush 99, 2) := by decide +kernel
theorem dX12_init_277 : decode cX12_init 277 = .ok (.iastore, 1) := by decide +kernel
theorem dX12_init_278 : decode cX12_init 278 = .ok (.iinc 1 1, 3) := by decide +kernel
theorem dX12_init_281 : decode cX12_init 281 = .ok (.goto (-20), 3) := by decide +kernel
theorem dX12_init_284 : decode cX12_init 284 = .ok (.aload_n 0, 1) := by decide +kernel
theorem dX12_init_285 : decode cX12_init 285 = .ok (.getfield 13, 3) := by decide +kernel
theorem dX12_init_288 : decode cX12_init 288 = .ok (.bipush 40, 2) := by decide +kernel
theorem dX12_init_290 : decode cX12_init 290 = .ok (.bipush 10, 2) := by decide +kernel
theorem dX12_init_292 : decode cX12_init 292 = .ok (.iastore, 1) := by decide +kernel
theorem dX12_init_293 : decode cX12_init 293 = .ok (.aload_n 0, 1) := by decide +kernel
theorem dX12_init_294 : decode cX12_init 294 = .ok (.getfield 13, 3) := by decide +kernel
theorem dX12_init_297 : decode cX12_init 297 = .ok (.bipush 41, 2) := by decide +kernel
theorem dX12_init_299 : decode cX12_init 299 = .ok (.bipush 100, 2) := by decide +kernel
theorem dX12_init_301 : decode cX12_init 301 = .ok (.iastore, 1) := by decide +kernel
theorem dX12_init_302 : decode cX12_init 302 = .ok (.aload_n 0, 1) := by decide +kernel
theorem dX12_init_303 : decode cX12_init 303 = .ok (.getfield 13, 3) := by decide +kernel
theorem dX12_init_306 : decode cX12_init 306 = .ok (.bipush 42, 2) := by decide +kernel
theorem dX12_init_308 : decode cX12_init 308 = .ok (.iconst 4, 1) := by decide +kernel
theorem dX12_init_309 : decode cX12_init 309 = .ok (.iastore, 1) := by decide +kernel
theorem dX12_init_310 : decode cX12_init 310 = .ok (.return_, 1) := by decide +kernel
theorem dX12_no_0 : decode cX12_no 0 = .ok (.aload_n 0, 1) := by decide +kernel
theorem dX12_no_1 : decode cX12_no 1 = .ok (.getfield 7, 3) := by decide +kernel
theorem dX12_no_4 : decode cX12_no 4 = .ok (.iload_n 1, 1) := by decide +kernel
theorem dX12_no_5 : decode cX12_no 5 = .ok (.ineg, 1) := by decide +kernel
theorem dX12_no_6 : decode cX12_no 6 = .ok (.dup2, 1) := by decide +kernel
theorem dX12_no_7 : decode cX12_no 7 = .ok (.iaload, 1) := by decide +kernel
theorem dX12_no_8 : decode cX12_no 8 = .ok (.iconst 1, 1) := by decide +kernel
theorem dX12_no_9 : decode cX12_no 9 = .ok (.iadd, 1) := by decide +kernel
theorem dX12_no_10 : decode cX12_no 10 = .ok (.iastore, 1) := by decide +kernel
theorem dX12_no_11 : decode cX12_no 11 = .ok (.iload_n 1, 1) := by decide +kernel
theorem dX12_no_12 : decode cX12_no 12 = .ok (.ireturn, 1) := by decide +kernel
theorem dX12_isIn_0 : decode cX12_isIn 0 = .ok (.lload_n 0, 1) := by decide +kernel
theorem dX12_isIn_1 : decode cX12_isIn 1 = .ok (.lload_n 2, 1) := by decide +kernel
theorem dX12_isIn_2 : decode cX12_isIn 2 = .ok (.lcmp, 1) := by decide +kernel
theorem dX12_isIn_3 : decode cX12_isIn 3 = .ok (.ifCond .lt 14, 3) := by decide +kernel
theorem dX12_isIn_6 : decode cX12_isIn 6 = .ok (.lload_n 0, 1) := by decide +kernel
theorem dX12_isIn_7 : decode cX12_isIn 7 = .ok (.lload 4, 2) := by decide +kernel
theorem dX12_isIn_9 : decode cX12_isIn 9 = .ok (.lcmp, 1) := by decide +kernel
theorem dX12_isIn_10 : decode cX12_isIn 10 = .ok (.ifCond .gt 7, 3) := by decide +kernel
theorem dX12_isIn_13 : decode cX12_isIn 13 = .ok (.iconst 1, 1) := by decide +kernel
theorem dX12_isIn_14 : decode cX12_isIn 14 = .ok (.goto 4, 3) := by decide +kernel
theorem dX12_isIn_17 : decode cX12_isIn 17 = .ok (.iconst 0, 1) := by decide +kernel
theorem dX12_isIn_18 : decode cX12_isIn 18 = .ok (.ireturn, 1) := by decide +kernel
theorem dX12_outOf_0 : decode cX12_outOf 0 = .ok (.lload_n 0, 1) := by decide +kernel
theorem dX12_outOf_1 : decode cX12_outOf 1 = .ok (.lload_n 2, 1) := by decide +kernel
theorem dX12_outOf_2 : decode cX12_outOf 2 = .ok (.lcmp, 1) := by decide +kernel
theorem dX12_outOf_3 : decode cX12_outOf 3 = .ok (.ifCond .ge 8, 3) := by decide +kernel
theorem dX12_outOf_6 : decode cX12_outOf 6 = .ok (.bipush (-4), 2) := by decide +kernel
theorem dX12_outOf_8 : decode cX12_outOf 8 = .ok (.goto 16, 3) := by decide +kernel
theorem dX12_outOf_11 : decode cX12_outOf 11 = .ok (.lload_n 0, 1) := by decide +kernel
theorem dX12_outOf_12 : decode cX12_outOf 12 = .ok (.lload 4, 2) := by decide +kernel
theorem dX12_outOf_14 : decode cX12_outOf 14 = .ok (.lcmp, 1) := by decide +kernel
theorem dX12_outOf_15 : decode cX12_outOf 15 = .ok (.ifCond .le 8, 3) := by decide +kernel
theorem dX12_outOf_18 : decode cX12_outOf 18 = .ok (.bipush (-6), 2) := by decide +kernel
theorem dX12_outOf_20 : decode cX12_outOf 20 = .ok (.goto 4, 3) := by decide +kernel
theorem dX12_outOf_23 : decode cX12_outOf 23 = .ok (.iconst 0, 1) := by decide +kernel
theorem dX12_outOf_24 : decode cX12_outOf 24 = .ok (.ireturn, 1) := by decide +kernel
theorem dX12_isThere_0 : decode cX12_isThere 0 = .ok (.iload_n 1, 1) := by decide +kernel
theorem dX12_isThere_1 : decode cX12_isThere 1 = .ok (.ifCond .lt 25, 3) := by decide +kernel
theorem dX12_isThere_4 : decode cX12_isThere 4 = .ok (.iload_n 1, 1) := by decide +kernel
theorem dX12_isThere_5 : decode cX12_isThere 5 = .ok (.iconst 4, 1) := by decide +kernel
theorem dX12_isThere_6 : decode cX12_isThere 6 = .ok (.if_icmp .ge 20, 3) := by decide +kernel
theorem dX12_isThere_9 : decode cX12_isThere 9 = .ok (.aload_n 0, 1) := by decide +kernel
theorem dX12_isThere_10 : decode cX12_isThere 10 = .ok (.getfield 13, 3) := by decide +kernel
theorem dX12_isThere_13 : decode cX12_isThere 13 = .ok (.bipush 43, 2) := by decide +kernel
theorem dX12_isThere_15 : decode cX12_isThere 15 = .ok (.iload_n 1, 1) := by decide +kernel
theorem dX12_isThere_16 : decode cX12_isThere 16 = .ok (.iadd, 1) := by decide +kernel
theorem dX12_isThere_17 : decode cX12_isThere 17 = .ok (.iaload, 1) := by decide +kernel
theorem dX12_isThere_18 : decode cX12_isThere 18 = .ok (.iconst 1, 1) := by decide +kernel
theorem dX12_isThere_19 : decode cX12_isThere 19 = .ok (.if_icmp .ne 7, 3) := by decide +kernel
theorem dX12_isThere_22 : decode cX12_isThere 22 = .ok (.iconst 1, 1) := by decide +kernel
theorem dX12_isThere_23 : decode cX12_isThere 23 = .ok (.goto 4, 3) := by decide +kernel
theorem dX12_isThere_26 : decode cX12_isThere 26 = .ok (.iconst 0, 1) := by decide +kernel
theorem dX12_isThere_27 : decode cX12_isThere 27 = .ok (.ireturn, 1) := by decide +kernel
theorem dX12_harbours_0 : decode cX12_harbours 0 = .ok (.aload_n 0, 1) := by decide +kernel
theorem dX12_harbours_1 : decode cX12_harbours 1 = .ok (.getfield 13, 3) := by decide +kernel
theorem dX12_harbours_4 : decode cX12_harbours 4 = .ok (.bipush 43, 2) := by decide +kernel
theorem dX12_harbours_6 : decode cX12_harbours 6 = .ok (.iaload, 1) := by decide +kernel
theorem dX12_harbours_7 : decode cX12_harbours 7 = .ok (.aload_n 0, 1) := by decide +kernel
theorem dX12_harbours_8 : decode cX12_harbours 8 = .ok (.getfield 13, 3) := by decide +kernel
theorem dX12_harbours_11 : decode cX12_harbours 11 = .ok (.bipush 44, 2) := by decide +kernel
theorem dX12_harbours_13 : decode cX12_harbours 13 = .ok (.iaload, 1) := by decide +kernel
theorem dX12_harbours_14 : decode cX12_harbours 14 = .ok (.iadd, 1) := by decide +kernel
theorem dX12_harbours_15 : decode cX12_harbours 15 = .ok (.aload_n 0, 1) := by decide +kernel
theorem dX12_harbours_16 : decode cX12_harbours 16 = .ok (.getfield 13, 3) := by decide +kernel
theorem dX12_harbours_19 : decode cX12_harbours 19 = .ok (.bipush 45, 2) := by decide +kernel
theorem dX12_harbours_21 : decode cX12_harbours 21 = .ok (.iaload, 1) := by decide +kernel
theorem dX12_harbours_22 : decode cX12_harbours 22 = .ok (.iadd, 1) := by decide +kernel
theorem dX12_harbours_23 : decode cX12_harbours 23 = .ok (.aload_n 0, 1) := by decide +kernel
theorem dX12_harbours_24 : decode cX12_harbours 24 = .ok (.getfield 13, 3) := by decide +kernel
theorem dX12_harbours_27 : decode cX12_harbours 27 = .ok (.bipush 46, 2) := by decide +kernel
theorem dX12_harbours_29 : decode cX12_harbours 29 = .ok (.iaload, 1) := by decide +kernel
theorem dX12_harbours_30 : decode cX12_harbours 30 = .ok (.iadd, 1) := by decide +kernel
theorem dX12_harbours_31 : decode cX12_harbours 31 = .ok (.ireturn, 1) := by decide +kernel
theorem dX12_harbour_0 : decode cX12_harbour 0 = .ok (.iload_n 1, 1) := by decide +kernel
theorem dX12_harbour_1 : decode cX12_harbour 1 = .ok (.i2l, 1) := by decide +kernel
theorem dX12_harbour_2 : decode cX12_harbour 2 = .ok (.lconst 0, 1) := by decide +kernel
theorem dX12_harbour_3 : decode cX12_harbour 3 = .ok (.ldc2_w 107, 3) := by decide +kernel
theorem dX12_harbour_6 : decode cX12_harbour 6 = .ok (.invokestatic 109, 3) := by decide +kernel
theorem dX12_harbour_9 : decode cX12_harbour 9 = .ok (.ifCond .ne 9, 3) := by decide +kernel
theorem dX12_harbour_12 : decode cX12_harbour 12 = .ok (.aload_n 0, 1) := by decide +kernel
theorem dX12_harbour_13 : decode cX12_harbour 13 = .ok (.iconst (-1), 1) := by decide +kernel
theorem dX12_harbour_14 : decode cX12_harbour 14 = .ok (.invokevirtual 113, 3) := by decide +kernel
theorem dX12_harbour_17 : decode cX12_harbour 17 = .ok (.ireturn, 1) := by decide +kernel
theorem dX12_harbour_18 : decode cX12_harbour 18 = .ok (.aload_n 0, 1) := by decide +kernel
theorem dX12_harbour_19 : decode cX12_harbour 19 = .ok (.iload_n 1, 1) := by decide +kernel
theorem dX12_harbour_20 : decode cX12_harbour 20 = .ok (.invokevirtual 117, 3) := by decide +kernel
theorem dX12_harbour_23 : decode cX12_harbour 23 = .ok (.ifCond .eq 10, 3) := by decide +kernel
theorem dX12_harbour_26 : decode cX12_harbour 26 = .ok (.aload_n 0, 1) := by decide +kernel
theorem dX12_harbour_27 : decode cX12_harbour 27 = .ok (.bipush (-3), 2) := by decide +kernel
theorem dX12_harbour_29 : decode cX12_harbour 29 = .ok (.invokevirtual 113, 3) := by decide +kernel
theorem dX12_harbour_32 : decode cX12_harbour 32 = .ok (.ireturn, 1) := by decide +kernel
theorem dX12_harbour_33 : decode cX12_harbour 33 = .ok (.aload_n 0, 1) := by decide +kernel
theorem dX12_harbour_34 : decode cX12_harbour 34 = .ok (.getfield 13, 3) := by decide +kernel
theorem dX12_harbour_37 : decode cX12_harbour 37 = .ok (.bipush 43, 2) := by decide +kernel
theorem dX12_harbour_39 : decode cX12_harbour 39 = .ok (.iload_n 1, 1) := by decide +kernel
theorem dX12_harbour_40 : decode cX12_harbour 40 = .ok (.iadd, 1) := by decide +kernel
theorem dX12_harbour_41 : decode cX12_harbour 41 = .ok (.iconst 1, 1) := by decide +kernel
theorem dX12_harbour_42 : decode cX12_harbour 42 = .ok (.iastore, 1) := by decide +kernel
theorem dX12_harbour_43 : decode cX12_harbour 43 = .ok (.iconst 0, 1) := by decide +kernel
theorem dX12_harbour_44 : decode cX12_harbour 44 = .ok (.istore_n 2, 1) := by decide +kernel
theorem dX12_harbour_45 : decode cX12_harbour 45 = .ok (.iload_n 2, 1) := by decide +kernel
theorem dX12_harbour_46 : decode cX12_harbour 46 = .ok (.bipush 6, 2) := by decide +kernel
theorem dX12_harbour_48 : decode cX12_harbour 48 = .ok (.if_icmp .ge 21, 3) := by decide +kernel
theorem dX12_harbour_51 : decode cX12_harbour 51 = .ok (.aload_n 0, 1) := by decide +kernel
theorem dX12_harbour_52 : decode cX12_harbour 52 = .ok (.getfield 13, 3) := by decide +kernel
theorem dX12_harbour_55 : decode cX12_harbour 55 = .ok (.bipush 6, 2) := by decide +kernel
theorem dX12_harbour_57 : decode cX12_harbour 57 = .ok (.iload_n 1, 1) := by decide +kernel
theorem dX12_harbour_58 : decode cX12_harbour 58 = .ok (.imul, 1) := by decide +kernel
theorem dX12_harbour_59 : decode cX12_harbour 59 = .ok (.iload_n 2, 1) := by decide +kernel
theorem dX12_harbour_60 : decode cX12_harbour 60 = .ok (.iadd, 1) := by decide +kernel
theorem dX12_harbour_61 : decode cX12_harbour 61 = .ok (.iconst 0, 1) := by decide +kernel
theorem dX12_harbour_62 : decode cX12_harbour 62 = .ok (.iastore, 1) := by decide +kernel
theorem dX12_harbour_63 : decode cX12_harbour 63 = .ok (.iinc 2 1, 3) := by decide +kernel
theorem dX12_harbour_66 : decode cX12_harbour 66 = .ok (.goto (-21), 3) := by decide +kernel
theorem dX12_harbour_69 : decode cX12_harbour 69 = .ok (.aload_n 0, 1) := by decide +kernel
theorem dX12_harbour_70 : decode cX12_harbour 70 = .ok (.iconst 0, 1) := by decide +kernel
theorem dX12_harbour_71 : decode cX12_harbour 71 = .ok (.putfield 121, 3) := by decide +kernel
theorem dX12_harbour_74 : decode cX12_harbour 74 = .ok (.iconst 1, 1) := by decide +kernel
theorem dX12_harbour_75 : decode cX12_harbour 75 = .ok (.ireturn, 1) := by decide +kernel
theorem dX12_becomes_0 : decode cX12_becomes 0 = .ok (.aload_n 0, 1) := by decide +kernel
theorem dX12_becomes_1 : decode cX12_becomes 1 = .ok (.getfield 125, 3) := by decide +kernel
theorem dX12_becomes_4 : decode cX12_becomes 4 = .ok (.bipush 40, 2) := by decide +kernel
theorem dX12_becomes_6 : decode cX12_becomes 6 = .ok (.if_icmp .ne 55, 3) := by decide +kernel
theorem dX12_becomes_9 : decode cX12_becomes 9 = .ok (.iconst 1, 1) := by decide +kernel
theorem dX12_becomes_10 : decode cX12_becomes 10 = .ok (.istore_n 3, 1) := by decide +kernel
theorem dX12_becomes_11 : decode cX12_becomes 11 = .ok (.iload_n 3, 1) := by decide +kernel
theorem dX12_becomes_12 : decode cX12_becomes 12 = .ok (.bipush 40, 2) := by decide +kernel
theorem dX12_becomes_14 : decode cX12_becomes 14 = .ok (.if_icmp .ge 37, 3) := by decide +kernel
theorem dX12_becomes_17 : decode cX12_becomes 17 = .ok (.aload_n 0, 1) := by decide +kernel
theorem dX12_becomes_18 : decode cX12_becomes 18 = .ok (.getfield 16, 3) := by decide +kernel
theorem dX12_becomes_21 : decode cX12_becomes 21 = .ok (.iload_n 3, 1) := by decide +kernel
theorem dX12_becomes_22 : decode cX12_becomes 22 = .ok (.iconst 1, 1) := by decide +kernel
theorem dX12_becomes_23 : decode cX12_becomes 23 = .ok (.isub, 1) := by decide +kernel
theorem dX12_becomes_24 : decode cX12_becomes 24 = .ok (.aload_n 0, 1) := by decide +kernel
theorem dX12_becomes_25 : decode cX12_becomes 25 = .ok (.getfield 16, 3) := by decide +kernel
theorem dX12_becomes_28 : decode cX12_becomes 28 = .ok (.iload_n 3, 1) := by decide +kernel
theorem dX12_becomes_29 : decode cX12_becomes 29 = .ok (.iaload, 1) := by decide +kernel
theorem dX12_becomes_30 : decode cX12_becomes 30 = .ok (.iastore, 1) := by decide +kernel
theorem dX12_becomes_31 : decode cX12_becomes 31 = .ok (.aload_n 0, 1) := by decide +kernel
theorem dX12_becomes_32 : decode cX12_becomes 32 = .ok (.getfield 19, 3) := by decide +kernel
theorem dX12_becomes_35 : decode cX12_becomes 35 = .ok (.iload_n 3, 1) := by decide +kernel
theorem dX12_becomes_36 : decode cX12_becomes 36 = .ok (.iconst 1, 1) := by decide +kernel
theorem dX12_becomes_37 : decode cX12_becomes 37 = .ok (.isub, 1) := by decide +kernel
theorem dX12_becomes_38 : decode cX12_becomes 38 = .ok (.aload_n 0, 1) := by decide +kernel
theorem dX12_becomes_39 : decode cX12_becomes 39 = .ok (.getfield 19, 3) := by decide +kernel
theorem dX12_becomes_42 : decode cX12_becomes 42 = .ok (.iload_n 3, 1) := by decide +kernel
theorem dX12_becomes_43 : decode cX12_becomes 43 = .ok (.iaload, 1) := by decide +kernel
theorem dX12_becomes_44 : decode cX12_becomes 44 = .ok (.iastore, 1) := by decide +kernel
theorem dX12_becomes_45 : decode cX12_becomes 45 = .ok (.iinc 3 1, 3) := by decide +kernel
theorem dX12_becomes_48 : decode cX12_becomes 48 = .ok (.goto (-37), 3) := by decide +kernel
theorem dX12_becomes_51 : decode cX12_becomes 51 = .ok (.aload_n 0, 1) := by decide +kernel
theorem dX12_becomes_52 : decode cX12_becomes 52 = .ok (.dup, 1) := by decide +kernel
theorem dX12_becomes_53 : decode cX12_becomes 53 = .ok (.getfield 125, 3) := by decide +kernel
theorem dX12_becomes_56 : decode cX12_becomes 56 = .ok (.iconst 1, 1) := by decide +kernel
theorem dX12_becomes_57 : decode cX12_becomes 57 = .ok (.isub, 1) := by decide +kernel
theorem dX12_becomes_58 : decode cX12_becomes 58 = .ok (.putfield 125, 3) := by decide +kernel
theorem dX12_becomes_61 : decode cX12_becomes 61 = .ok (.aload_n 0, 1) := by decide +kernel
theorem dX12_becomes_62 : decode cX12_becomes 62 = .ok (.getfield 16, 3) := by decide +kernel
theorem dX12_becomes_65 : decode cX12_becomes 65 = .ok (.aload_n 0, 1) := by decide +kernel
theorem dX12_becomes_66 : decode cX12_becomes 66 = .ok (.getfield 125, 3) := by decide +kernel
theorem dX12_becomes_69 : decode cX12_becomes 69 = .ok (.iload_n 1, 1) := by decide +kernel
theorem dX12_becomes_70 : decode cX12_becomes 70 = .ok (.iastore, 1) := by decide +kernel
theorem dX12_becomes_71 : decode cX12_becomes 71 = .ok (.aload_n 0, 1) := by decide +kernel
theorem dX12_becomes_72 : decode cX12_becomes 72 = .ok (.getfield 19, 3) := by decide +kernel
theorem dX12_becomes_75 : decode cX12_becomes 75 = .ok (.aload_n 0, 1) := by decide +kernel
theorem dX12_becomes_76 : decode cX12_becomes 76 = .ok (.getfield 125, 3) := by decide +kernel
theorem dX12_becomes_79 : decode cX12_becomes 79 = .ok (.aload_n 0, 1) := by decide +kernel
theorem dX12_becomes_80 : decode cX12_becomes 80 = .ok (.getfield 13, 3) := by decide +kernel
theorem dX12_becomes_83 : decode cX12_becomes 83 = .ok (.iload_n 1, 1) := by decide +kernel
theorem dX12_becomes_84 : decode cX12_becomes 84 = .ok (.iaload, 1) := by decide +kernel
theorem dX12_becomes_85 : decode cX12_becomes 85 = .ok (.iastore, 1) := by decide +kernel
theorem dX12_becomes_86 : decode cX12_becomes 86 = .ok (.aload_n 0, 1) := by decide +kernel
theorem dX12_becomes_87 : decode cX12_becomes 87 = .ok (.dup, 1) := by decide +kernel
theorem dX12_becomes_88 : decode cX12_becomes 88 = .ok (.getfield 125, 3) := by decide +kernel
theorem dX12_becomes_91 : decode cX12_becomes 91 = .ok (.iconst 1, 1) := by decide +kernel
theorem dX12_becomes_92 : decode cX12_becomes 92 = .ok (.iadd, 1) := by decide +kernel
theorem dX12_becomes_93 : decode cX12_becomes 93 = .ok (.putfield 125, 3) := by decide +kernel
theorem dX12_becomes_96 : decode cX12_becomes 96 = .ok (.aload_n 0, 1) := by decide +kernel
theorem dX12_becomes_97 : decode cX12_becomes 97 = .ok (.getfield 13, 3) := by decide +kernel
theorem dX12_becomes_100 : decode cX12_becomes 100 = .ok (.iload_n 1, 1) := by decide +kernel
theorem dX12_becomes_101 : decode cX12_becomes 101 = .ok (.iaload, 1) := by decide +kernel
theorem dX12_becomes_102 : decode cX12_becomes 102 = .ok (.istore_n 3, 1) := by decide +kernel
theorem dX12_becomes_103 : decode cX12_becomes 103 = .ok (.aload_n 0, 1) := by decide +kernel
theorem dX12_becomes_104 : decode cX12_becomes 104 = .ok (.getfield 13, 3) := by decide +kernel
theorem dX12_becomes_107 : decode cX12_becomes 107 = .ok (.iload_n 1, 1) := by decide +kernel
theorem dX12_becomes_108 : decode cX12_becomes 108 = .ok (.iload_n 2, 1) := by decide +kernel
theorem dX12_becomes_109 : decode cX12_becomes 109 = .ok (.iastore, 1) := by decide +kernel
theorem dX12_becomes_110 : decode cX12_becomes 110 = .ok (.aload_n 0, 1) := by decide +kernel
theorem dX12_becomes_111 : decode cX12_becomes 111 = .ok (.iconst 0, 1) := by decide +kernel
theorem dX12_becomes_112 : decode cX12_becomes 112 = .ok (.putfield 121, 3) := by decide +kernel
theorem dX12_becomes_115 : decode cX12_becomes 115 = .ok (.iload_n 3, 1) := by decide +kernel
theorem dX12_becomes_116 : decode cX12_becomes 116 = .ok (.ireturn, 1) := by decide +kernel
theorem dX12_tell_0 : decode cX12_tell 0 = .ok (.aload_n 0, 1) := by decide +kernel
theorem dX12_tell_1 : decode cX12_tell 1 = .ok (.iload_n 1, 1) := by decide +kernel
theorem dX12_tell_2 : decode cX12_tell 2 = .ok (.invokevirtual 117, 3) := by decide +kernel
theorem dX12_tell_5 : decode cX12_tell 5 = .ok (.ifCond .ne 9, 3) := by decide +kernel
theorem dX12_tell_8 : decode cX12_tell 8 = .ok (.aload_n 0, 1) := by decide +kernel
theorem dX12_tell_9 : decode cX12_tell 9 = .ok (.iconst (-1), 1) := by decide +kernel
theorem dX12_tell_10 : decode cX12_tell 10 = .ok (.invokevirtual 113, 3) := by decide +kernel
theorem dX12_tell_13 : decode cX12_tell 13 = .ok (.ireturn, 1) := by decide +kernel
theorem dX12_tell_14 : decode cX12_tell 14 = .ok (.iload_n 2, 1) := by decide +kernel
theorem dX12_tell_15 : decode cX12_tell 15 = .ok (.i2l, 1) := by decide +kernel
theorem dX12_tell_16 : decode cX12_tell 16 = .ok (.lconst 0, 1) := by decide +kernel
theorem dX12_tell_17 : decode cX12_tell 17 = .ok (.ldc2_w 129, 3) := by decide +kernel
theorem dX12_tell_20 : decode cX12_tell 20 = .ok (.invokestatic 109, 3) := by decide +kernel
theorem dX12_tell_23 : decode cX12_tell 23 = .ok (.ifCond .ne 10, 3) := by decide +kernel
theorem dX12_tell_26 : decode cX12_tell 26 = .ok (.aload_n 0, 1) := by decide +kernel
theorem dX12_tell_27 : decode cX12_tell 27 = .ok (.bipush (-2), 2) := by decide +kernel
theorem dX12_tell_29 : decode cX12_tell 29 = .ok (.invokevirtual 113, 3) := by decide +kernel
theorem dX12_tell_32 : decode cX12_tell 32 = .ok (.ireturn, 1) := by decide +kernel
theorem dX12_tell_33 : decode cX12_tell 33 = .ok (.iload_n 3, 1) := by decide +kernel
theorem dX12_tell_34 : decode cX12_tell 34 = .ok (.i2l, 1) := by decide +kernel
theorem dX12_tell_35 : decode cX12_tell 35 = .ok (.lconst 0, 1) := by decide +kernel
theorem dX12_tell_36 : decode cX12_tell 36 = .ok (.iload_n 2, 1) := by decide +kernel
theorem dX12_tell_37 : decode cX12_tell 37 = .ok (.iconst 2, 1) := by decide +kernel
theorem dX12_tell_38 : decode cX12_tell 38 = .ok (.if_icmp .ne 9, 3) := by decide +kernel
theorem dX12_tell_41 : decode cX12_tell 41 = .ok (.ldc2_w 131, 3) := by decide +kernel
theorem dX12_tell_44 : decode cX12_tell 44 = .ok (.goto 17, 3) := by decide +kernel
theorem dX12_tell_47 : decode cX12_tell 47 = .ok (.iload_n 2, 1) := by decide +kernel
theorem dX12_tell_48 : decode cX12_tell 48 = .ok (.iconst 5, 1) := by decide +kernel
theorem dX12_tell_49 : decode cX12_tell 49 = .ok (.if_icmp .ne 9, 3) := by decide +kernel
theorem dX12_tell_52 : decode cX12_tell 52 = .ok (.ldc2_w 133, 3) := by decide +kernel
theorem dX12_tell_55 : decode cX12_tell 55 = .ok (.goto 6, 3) := by decide +kernel
theorem dX12_tell_58 : decode cX12_tell 58 = .ok (.ldc2_w 135, 3) := by decide +kernel
theorem dX12_tell_61 : decode cX12_tell 61 = .ok (.invokestatic 137, 3) := by decide +kernel
theorem dX12_tell_64 : decode cX12_tell 64 = .ok (.istore 4, 2) := by decide +kernel
theorem dX12_tell_66 : decode cX12_tell 66 = .ok (.iload 4, 2) := by decide +kernel
theorem dX12_tell_68 : decode cX12_tell 68 = .ok (.ifCond .eq 12, 3) := by decide +kernel
theorem dX12_tell_71 : decode cX12_tell 71 = .ok (.aload_n 0, 1) := by decide +kernel
theorem dX12_tell_72 : decode cX12_tell 72 = .ok (.iload 4, 2) := by decide +kernel
theorem dX12_tell_74 : decode cX12_tell 74 = .ok (.invokevirtual 113, 3) := by decide +kernel
theorem dX12_tell_77 : decode cX12_tell 77 = .ok (.goto 14, 3) := by decide +kernel
theorem dX12_tell_80 : decode cX12_tell 80 = .ok (.aload_n 0, 1) := by decide +kernel
theorem dX12_tell_81 : decode cX12_tell 81 = .ok (.bipush 6, 2) := by decide +kernel
theorem dX12_tell_83 : decode cX12_tell 83 = .ok (.iload_n 1, 1) := by decide +kernel
theorem dX12_tell_84 : decode cX12_tell 84 = .ok (.imul, 1) := by decide +kernel
theorem dX12_tell_85 : decode cX12_tell 85 = .ok (.iload_n 2, 1) := by decide +kernel
theorem dX12_tell_86 : decode cX12_tell 86 = .ok (.iadd, 1) := by decide +kernel
theorem dX12_tell_87 : decode cX12_tell 87 = .ok (.iload_n 3, 1) := by decide +kernel
theorem dX12_tell_88 : decode cX12_tell 88 = .ok (.invokevirtual 141, 3) := by decide +kernel
theorem dX12_tell_91 : decode cX12_tell 91 = .ok (.ireturn, 1) := by decide +kernel
theorem dX12_move_0 : decode cX12_move 0 = .ok (.aload_n 0, 1) := by decide +kernel
theorem dX12_move_1 : decode cX12_move 1 = .ok (.iload_n 1, 1) := by decide +kernel
theorem dX12_move_2 : decode cX12_move 2 = .ok (.invokevirtual 117, 3) := by decide +kernel
theorem dX12_move_5 : decode cX12_move 5 = .ok (.ifCond .eq 16, 3) := by decide +kernel
theorem dX12_move_8 : decode cX12_move 8 = .ok (.aload_n 0, 1) := by decide +kernel
theorem dX12_move_9 : decode cX12_move 9 = .ok (.iload_n 2, 1) := by decide +kernel
theorem dX12_move_10 : decode cX12_move 10 = .ok (.invokevirtual 117, 3) := by decide +kernel
theorem dX12_move_13 : decode cX12_move 13 = .ok (.ifCond .eq 8, 3) := by decide +kernel
theorem dX12_move_16 : decode cX12_move 16 = .ok (.iload_n 1, 1) := by decide +kernel
theorem dX12_move_17 : decode cX12_move 17 = .ok (.iload_n 2, 1) := by decide +kernel
theorem dX12_move_18 : decode cX12_move 18 = .ok (.if_icmp .ne 9, 3) := by decide +kernel
theorem dX12_move_21 : decode cX12_move 21 = .ok (.aload_n 0, 1) := by decide +kernel
theorem dX12_move_22 : decode cX12_move 22 = .ok (.iconst (-1), 1) := by decide +kernel
theorem dX12_move_23 : decode cX12_move 23 = .ok (.invokevirtual 113, 3) := by decide +kernel
theorem dX12_move_26 : decode cX12_move 26 = .ok (.ireturn, 1) := by decide +kernel
theorem dX12_move_27 : decode cX12_move 27 = .ok (.iload_n 3, 1) := by decide +kernel
theorem dX12_move_28 : decode cX12_move 28 = .ok (.i2l, 1) := by decide +kernel
theorem dX12_move_29 : decode cX12_move 29 = .ok (.lconst 0, 1) := by decide +kernel
theorem dX12_move_30 : decode cX12_move 30 = .ok (.ldc2_w 135, 3) := by decide +kernel
theorem dX12_move_33 : decode cX12_move 33 = .ok (.invokestatic 137, 3) := by decide +kernel
theorem dX12_move_36 : decode cX12_move 36 = .ok (.istore 4, 2) := by decide +kernel
theorem dX12_move_38 : decode cX12_move 38 = .ok (.iload 4, 2) := by decide +kernel
theorem dX12_move_40 : decode cX12_move 40 = .ok (.ifCond .eq 12, 3) := by decide +kernel
theorem dX12_move_43 : decode cX12_move 43 = .ok (.aload_n 0, 1) := by decide +kernel
theorem dX12_move_44 : decode cX12_move 44 = .ok (.iload 4, 2) := by decide +kernel
theorem dX12_move_46 : decode cX12_move 46 = .ok (.invokevirtual 113, 3) := by decide +kernel
theorem dX12_move_49 : decode cX12_move 49 = .ok (.goto 16, 3) := by decide +kernel
theorem dX12_move_52 : decode cX12_move 52 = .ok (.aload_n 0, 1) := by decide +kernel
theorem dX12_move_53 : decode cX12_move 53 = .ok (.bipush 24, 2) := by decide +kernel
theorem dX12_move_55 : decode cX12_move 55 = .ok (.iconst 4, 1) := by decide +kernel
theorem dX12_move_56 : decode cX12_move 56 = .ok (.iload_n 1, 1) := by decide +kernel
theorem dX12_move_57 : decode cX12_move 57 = .ok (.imul, 1) := by decide +kernel
theorem dX12_move_58 : decode cX12_move 58 = .ok (.iadd, 1) := by decide +kernel
theorem dX12_move_59 : decode cX12_move 59 = .ok (.iload_n 2, 1) := by decide +kernel
theorem dX12_move_60 : decode cX12_move 60 = .ok (.iadd, 1) := by decide +kernel
theorem dX12_move_61 : decode cX12_move 61 = .ok (.iload_n 3, 1) := by decide +kernel
theorem dX12_move_62 : decode cX12_move 62 = .ok (.invokevirtual 141, 3) := by decide +kernel
theorem dX12_move_65 : decode cX12_move 65 = .ok (.ireturn, 1) := by decide +kernel
theorem dX12_set_0 : decode cX12_set 0 = .ok (.iload_n 1, 1) := by decide +kernel
theorem dX12_set_1 : decode cX12_set 1 = .ok (.i2l, 1) := by decide +kernel
theorem dX12_set_2 : decode cX12_set 2 = .ok (.lconst 0, 1) := by decide +kernel
theorem dX12_set_3 : decode cX12_set 3 = .ok (.ldc2_w 145, 3) := by decide +kernel
theorem dX12_set_6 : decode cX12_set 6 = .ok (.invokestatic 109, 3) := by decide +kernel
theorem dX12_set_9 : decode cX12_set 9 = .ok (.ifCond .ne 10, 3) := by decide +kernel
theorem dX12_set_12 : decode cX12_set 12 = .ok (.aload_n 0, 1) := by decide +kernel
theorem dX12_set_13 : decode cX12_set 13 = .ok (.bipush (-2), 2) := by decide +kernel
theorem dX12_set_15 : decode cX12_set 15 = .ok (.invokevirtual 113, 3) := by decide +kernel
theorem dX12_set_18 : decode cX12_set 18 = .ok (.ireturn, 1) := by decide +kernel
theorem dX12_set_19 : decode cX12_set 19 = .ok (.iload_n 2, 1) := by decide +kernel
theorem dX12_set_20 : decode cX12_set 20 = .ok (.i2l, 1) := by decide +kernel
theorem dX12_set_21 : decode cX12_set 21 = .ok (.iload_n 1, 1) := by decide +kernel
theorem dX12_set_22 : decode cX12_set 22 = .ok (.ifCond .ne 7, 3) := by decide +kernel
theorem dX12_set_25 : decode cX12_set 25 = .ok (.lconst 1, 1) := by decide +kernel
theorem dX12_set_26 : decode cX12_set 26 = .ok (.goto 4, 3) := by decide +kernel
theorem dX12_set_29 : decode cX12_set 29 = .ok (.lconst 0, 1) := by decide +kernel
theorem dX12_set_30 : decode cX12_set 30 = .ok (.iload_n 1, 1) := by decide +kernel
theorem dX12_set_31 : decode cX12_set 31 = .ok (.ifCond .ne 9, 3) := by decide +kernel
theorem dX12_set_34 : decode cX12_set 34 = .ok (.ldc2_w 147, 3) := by decide +kernel
theorem dX12_set_37 : decode cX12_set 37 = .ok (.goto 17, 3) := by decide +kernel
theorem dX12_set_40 : decode cX12_set 40 = .ok (.iload_n 1, 1) := by decide +kernel
theorem dX12_set_41 : decode cX12_set 41 = .ok (.iconst 1, 1) := by decide +kernel
theorem dX12_set_42 : decode cX12_set 42 = .ok (.if_icmp .ne 9, 3) := by decide +kernel
theorem dX12_set_45 : decode cX12_set 45 = .ok (.ldc2_w 131, 3) := by decide +kernel
theorem dX12_set_48 : decode cX12_set 48 = .ok (.goto 6, 3) := by decide +kernel
theorem dX12_set_51 : decode cX12_set 51 = .ok (.ldc2_w 149, 3) := by decide +kernel
theorem dX12_set_54 : decode cX12_set 54 = .ok (.invokestatic 137, 3) := by decide +kernel
theorem dX12_set_57 : decode cX12_set 57 = .ok (.istore_n 3, 1) := by decide +kernel
theorem dX12_set_58 : decode cX12_set 58 = .ok (.iload_n 3, 1) := by decide +kernel
theorem dX12_set_59 : decode cX12_set 59 = .ok (.ifCond .eq 11, 3) := by decide +kernel
theorem dX12_set_62 : decode cX12_set 62 = .ok (.aload_n 0, 1) := by decide +kernel
theorem dX12_set_63 : decode cX12_set 63 = .ok (.iload_n 3, 1) := by decide +kernel
theorem dX12_set_64 : decode cX12_set 64 = .ok (.invokevirtual 113, 3) := by decide +kernel
theorem dX12_set_67 : decode cX12_set 67 = .ok (.goto 12, 3) := by decide +kernel
theorem dX12_set_70 : decode cX12_set 70 = .ok (.aload_n 0, 1) := by decide +kernel
theorem dX12_set_71 : decode cX12_set 71 = .ok (.bipush 40, 2) := by decide +kernel
theorem dX12_set_73 : decode cX12_set 73 = .ok (.iload_n 1, 1) := by decide +kernel
theorem dX12_set_74 : decode cX12_set 74 = .ok (.iadd, 1) := by decide +kernel
theorem dX12_set_75 : decode cX12_set 75 = .ok (.iload_n 2, 1) := by decide +kernel
theorem dX12_set_76 : decode cX12_set 76 = .ok (.invokevirtual 141, 3) := by decide +kernel
theorem dX12_set_79 : decode cX12_set 79 = .ok (.ireturn, 1) := by decide +kernel
theorem dX12_undo_0 : decode cX12_undo 0 = .ok (.aload_n 0, 1) := by decide +kernel
theorem dX12_undo_1 : decode cX12_undo 1 = .ok (.getfield 125, 3) := by decide +kernel
theorem dX12_undo_4 : decode cX12_undo 4 = .ok (.ifCond .ne 10, 3) := by decide +kernel
theorem dX12_undo_7 : decode cX12_undo 7 = .ok (.aload_n 0, 1) := by decide +kernel
theorem dX12_undo_8 : decode cX12_undo 8 = .ok (.bipush (-3), 2) := by decide +kernel
theorem dX12_undo_10 : decode cX12_undo 10 = .ok (.invokevirtual 113, 3) := by decide +kernel
theorem dX12_undo_13 : decode cX12_undo 13 = .ok (.ireturn, 1) := by decide +kernel
theorem dX12_undo_14 : decode cX12_undo 14 = .ok (.aload_n 0, 1) := by decide +kernel
theorem dX12_undo_15 : decode cX12_undo 15 = .ok (.dup, 1) := by decide +kernel
theorem dX12_undo_16 : decode cX12_undo 16 = .ok (.getfield 125, 3) := by decide +kernel
theorem dX12_undo_19 : decode cX12_undo 19 = .ok (.iconst 1, 1) := by decide +kernel
theorem dX12_undo_20 : decode cX12_undo 20 = .ok (.isub, 1) := by decide +kernel
theorem dX12_undo_21 : decode cX12_undo 21 = .ok (.putfield 125, 3) := by decide +kernel
theorem dX12_undo_24 : decode cX12_undo 24 = .ok (.aload_n 0, 1) := by decide +kernel
theorem dX12_undo_25 : decode cX12_undo 25 = .ok (.getfield 13, 3) := by decide +kernel
theorem dX12_undo_28 : decode cX12_undo 28 = .ok (.aload_n 0, 1) := by decide +kernel
theorem dX12_undo_29 : decode cX12_undo 29 = .ok (.getfield 16, 3) := by decide +kernel
theorem dX12_undo_32 : decode cX12_undo 32 = .ok (.aload_n 0, 1) := by decide +kernel
theorem dX12_undo_33 : decode cX12_undo 33 = .ok (.getfield 125, 3) := by decide +kernel
theorem dX12_undo_36 : decode cX12_undo 36 = .ok (.iaload, 1) := by decide +kernel
theorem dX12_undo_37 : decode cX12_undo 37 = .ok (.aload_n 0, 1) := by decide +kernel
theorem dX12_undo_38 : decode cX12_undo 38 = .ok (.getfield 19, 3) := by decide +kernel
theorem dX12_undo_41 : decode cX12_undo 41 = .ok (.aload_n 0, 1) := by decide +kernel
theorem dX12_undo_42 : decode cX12_undo 42 = .ok (.getfield 125, 3) := by decide +kernel
theorem dX12_undo_45 : decode cX12_undo 45 = .ok (.iaload, 1) := by decide +kernel
theorem dX12_undo_46 : decode cX12_undo 46 = .ok (.iastore, 1) := by decide +kernel
theorem dX12_undo_47 : decode cX12_undo 47 = .ok (.aload_n 0, 1) := by decide +kernel
theorem dX12_undo_48 : decode cX12_undo 48 = .ok (.iconst 0, 1) := by decide +kernel
theorem dX12_undo_49 : decode cX12_undo 49 = .ok (.putfield 121, 3) := by decide +kernel
theorem dX12_undo_52 : decode cX12_undo 52 = .ok (.iconst 1, 1) := by decide +kernel
theorem dX12_undo_53 : decode cX12_undo 53 = .ok (.ireturn, 1) := by decide +kernel
theorem dX12_isWorld_0 : decode cX12_isWorld 0 = .ok (.iload_n 1, 1) := by decide +kernel
theorem dX12_isWorld_1 : decode cX12_isWorld 1 = .ok (.i2l, 1) := by decide +kernel
theorem dX12_isWorld_2 : decode cX12_isWorld 2 = .ok (.lconst 0, 1) := by decide +kernel
theorem dX12_isWorld_3 : decode cX12_isWorld 3 = .ok (.ldc2_w 151, 3) := by decide +kernel
theorem dX12_isWorld_6 : decode cX12_isWorld 6 = .ok (.invokestatic 109, 3) := by decide +kernel
theorem dX12_isWorld_9 : decode cX12_isWorld 9 = .ok (.ifCond .ne 5, 3) := by decide +kernel
theorem dX12_isWorld_12 : decode cX12_isWorld 12 = .ok (.iconst 0, 1) := by decide +kernel
theorem dX12_isWorld_13 : decode cX12_isWorld 13 = .ok (.ireturn, 1) := by decide +kernel
theorem dX12_isWorld_14 : decode cX12_isWorld 14 = .ok (.iconst 0, 1) := by decide +kernel
theorem dX12_isWorld_15 : decode cX12_isWorld 15 = .ok (.istore_n 2, 1) := by decide +kernel
theorem dX12_isWorld_16 : decode cX12_isWorld 16 = .ok (.iload_n 2, 1) := by decide +kernel
theorem dX12_isWorld_17 : decode cX12_isWorld 17 = .ok (.iconst 4, 1) := by decide +kernel
theorem dX12_isWorld_18 : decode cX12_isWorld 18 = .ok (.if_icmp .ge 28, 3) := by decide +kernel
theorem dX12_isWorld_21 : decode cX12_isWorld 21 = .ok (.iload_n 1, 1) := by decide +kernel
theorem dX12_isWorld_22 : decode cX12_isWorld 22 = .ok (.iload_n 2, 1) := by decide +kernel
theorem dX12_isWorld_23 : decode cX12_isWorld 23 = .ok (.ishr, 1) := by decide +kernel
theorem dX12_isWorld_24 : decode cX12_isWorld 24 = .ok (.iconst 1, 1) := by decide +kernel
theorem dX12_isWorld_25 : decode cX12_isWorld 25 = .ok (.iand, 1) := by decide +kernel
theorem dX12_isWorld_26 : decode cX12_isWorld 26 = .ok (.iconst 1, 1) := by decide +kernel
theorem dX12_isWorld_27 : decode cX12_isWorld 27 = .ok (.if_icmp .ne 13, 3) := by decide +kernel
theorem dX12_isWorld_30 : decode cX12_isWorld 30 = .ok (.aload_n 0, 1) := by decide +kernel
theorem dX12_isWorld_31 : decode cX12_isWorld 31 = .ok (.iload_n 2, 1) := by decide +kernel
theorem dX12_isWorld_32 : decode cX12_isWorld 32 = .ok (.invokevirtual 117, 3) := by decide +kernel
theorem dX12_isWorld_35 : decode cX12_isWorld 35 = .ok (.ifCond .ne 5, 3) := by decide +kernel
theorem dX12_isWorld_38 : decode cX12_isWorld 38 = .ok (.iconst 0, 1) := by decide +kernel
theorem dX12_isWorld_39 : decode cX12_isWorld 39 = .ok (.ireturn, 1) := by decide +kernel
theorem dX12_isWorld_40 : decode cX12_isWorld 40 = .ok (.iinc 2 1, 3) := by decide +kernel
theorem dX12_isWorld_43 : decode cX12_isWorld 43 = .ok (.goto (-27), 3) := by decide +kernel
theorem dX12_isWorld_46 : decode cX12_isWorld 46 = .ok (.iconst 1, 1) := by decide +kernel
theorem dX12_isWorld_47 : decode cX12_isWorld 47 = .ok (.ireturn, 1) := by decide +kernel
theorem dX12_ferries_0 : decode cX12_ferries 0 = .ok (.iload_n 0, 1) := by decide +kernel
theorem dX12_ferries_1 : decode cX12_ferries 1 = .ok (.iconst 2, 1) := by decide +kernel
theorem dX12_ferries_2 : decode cX12_ferries 2 = .ok (.iload_n 1, 1) := by decide +kernel
theorem dX12_ferries_3 : decode cX12_ferries 3 = .ok (.imul, 1) := by decide +kernel
theorem dX12_ferries_4 : decode cX12_ferries 4 = .ok (.ishr, 1) := by decide +kernel
theorem dX12_ferries_5 : decode cX12_ferries 5 = .ok (.iconst 3, 1) := by decide +kernel
theorem dX12_ferries_6 : decode cX12_ferries 6 = .ok (.iand, 1) := by decide +kernel
theorem dX12_ferries_7 : decode cX12_ferries 7 = .ok (.ireturn, 1) := by decide +kernel
theorem dX12_isPlan_0 : decode cX12_isPlan 0 = .ok (.iload_n 1, 1) := by decide +kernel
theorem dX12_isPlan_1 : decode cX12_isPlan 1 = .ok (.i2l, 1) := by decide +kernel
theorem dX12_isPlan_2 : decode cX12_isPlan 2 = .ok (.lconst 0, 1) := by decide +kernel
theorem dX12_isPlan_3 : decode cX12_isPlan 3 = .ok (.ldc2_w 153, 3) := by decide +kernel
theorem dX12_isPlan_6 : decode cX12_isPlan 6 = .ok (.invokestatic 109, 3) := by decide +kernel
theorem dX12_isPlan_9 : decode cX12_isPlan 9 = .ok (.ifCond .ne 5, 3) := by decide +kernel
theorem dX12_isPlan_12 : decode cX12_isPlan 12 = .ok (.iconst 0, 1) := by decide +kernel
theorem dX12_isPlan_13 : decode cX12_isPlan 13 = .ok (.ireturn, 1) := by decide +kernel
theorem dX12_isPlan_14 : decode cX12_isPlan 14 = .ok (.iconst 0, 1) := by decide +kernel
theorem dX12_isPlan_15 : decode cX12_isPlan 15 = .ok (.istore_n 2, 1) := by decide +kernel
theorem dX12_isPlan_16 : decode cX12_isPlan 16 = .ok (.iload_n 2, 1) := by decide +kernel
theorem dX12_isPlan_17 : decode cX12_isPlan 17 = .ok (.iconst 4, 1) := by decide +kernel
theorem dX12_isPlan_18 : decode cX12_isPlan 18 = .ok (.if_icmp .ge 27, 3) := by decide +kernel
theorem dX12_isPlan_21 : decode cX12_isPlan 21 = .ok (.iload_n 1, 1) := by decide +kernel
theorem dX12_isPlan_22 : decode cX12_isPlan 22 = .ok (.iload_n 2, 1) := by decide +kernel
theorem dX12_isPlan_23 : decode cX12_isPlan 23 = .ok (.invokestatic 155, 3) := by decide +kernel
theorem dX12_isPlan_26 : decode cX12_isPlan 26 = .ok (.ifCond .le 13, 3) := by decide +kernel
theorem dX12_isPlan_29 : decode cX12_isPlan 29 = .ok (.aload_n 0, 1) := by decide +kernel
theorem dX12_isPlan_30 : decode cX12_isPlan 30 = .ok (.iload_n 2, 1) := by decide +kernel
theorem dX12_isPlan_31 : decode cX12_isPlan 31 = .ok (.invokevirtual 117, 3) := by decide +kernel
theorem dX12_isPlan_34 : decode cX12_isPlan 34 = .ok (.ifCond .ne 5, 3) := by decide +kernel
theorem dX12_isPlan_37 : decode cX12_isPlan 37 = .ok (.iconst 0, 1) := by decide +kernel
theorem dX12_isPlan_38 : decode cX12_isPlan 38 = .ok (.ireturn, 1) := by decide +kernel
theorem dX12_isPlan_39 : decode cX12_isPlan 39 = .ok (.iinc 2 1, 3) := by decide +kernel
theorem dX12_isPlan_42 : decode cX12_isPlan 42 = .ok (.goto (-26), 3) := by decide +kernel
theorem dX12_isPlan_45 : decode cX12_isPlan 45 = .ok (.iconst 1, 1) := by decide +kernel
theorem dX12_isPlan_46 : decode cX12_isPlan 46 = .ok (.ireturn, 1) := by decide +kernel
theorem dX12_feed_0 : decode cX12_feed 0 = .ok (.iload_n 1, 1) := by decide +kernel
theorem dX12_feed_1 : decode cX12_feed 1 = .ok (.i2l, 1) := by decide +kernel
theorem dX12_feed_2 : decode cX12_feed 2 = .ok (.lconst 1, 1) := by decide +kernel
theorem dX12_feed_3 : decode cX12_feed 3 = .ok (.ldc2_w 158, 3) := by decide +kernel
theorem dX12_feed_6 : decode cX12_feed 6 = .ok (.invokestatic 137, 3) := by decide +kernel
theorem dX12_feed_9 : decode cX12_feed 9 = .ok (.istore 4, 2) := by decide +kernel
theorem dX12_feed_11 : decode cX12_feed 11 = .ok (.iload 4, 2) := by decide +kernel
theorem dX12_feed_13 : decode cX12_feed 13 = .ok (.ifCond .ne 18, 3) := by decide +kernel
theorem dX12_feed_16 : decode cX12_feed 16 = .ok (.aload_n 0, 1) := by decide +kernel
theorem dX12_feed_17 : decode cX12_feed 17 = .ok (.getfield 160, 3) := by decide +kernel
theorem dX12_feed_20 : decode cX12_feed 20 = .ok (.iload_n 1, 1) := by decide +kernel
theorem dX12_feed_21 : decode cX12_feed 21 = .ok (.iadd, 1) := by decide +kernel
theorem dX12_feed_22 : decode cX12_feed 22 = .ok (.bipush 40, 2) := by decide +kernel
theorem dX12_feed_24 : decode cX12_feed 24 = .ok (.if_icmp .le 7, 3) := by decide +kernel
theorem dX12_feed_27 : decode cX12_feed 27 = .ok (.bipush (-6), 2) := by decide +kernel
theorem dX12_feed_29 : decode cX12_feed 29 = .ok (.istore 4, 2) := by decide +kernel
theorem dX12_feed_31 : decode cX12_feed 31 = .ok (.iload 4, 2) := by decide +kernel
theorem dX12_feed_33 : decode cX12_feed 33 = .ok (.ifCond .eq 10, 3) := by decide +kernel
theorem dX12_feed_36 : decode cX12_feed 36 = .ok (.aload_n 0, 1) := by decide +kernel
theorem dX12_feed_37 : decode cX12_feed 37 = .ok (.iload 4, 2) := by decide +kernel
theorem dX12_feed_39 : decode cX12_feed 39 = .ok (.invokevirtual 113, 3) := by decide +kernel
theorem dX12_feed_42 : decode cX12_feed 42 = .ok (.ireturn, 1) := by decide +kernel
theorem dX12_feed_43 : decode cX12_feed 43 = .ok (.iconst 0, 1) := by decide +kernel
theorem dX12_feed_44 : decode cX12_feed 44 = .ok (.istore 5, 2) := by decide +kernel
theorem dX12_feed_46 : decode cX12_feed 46 = .ok (.iload 5, 2) := by decide +kernel
theorem dX12_feed_48 : decode cX12_feed 48 = .ok (.iload_n 1, 1) := by decide +kernel
theorem dX12_feed_49 : decode cX12_feed 49 = .ok (.if_icmp .ge 40, 3) := by decide +kernel
theorem dX12_feed_52 : decode cX12_feed 52 = .ok (.aload_n 0, 1) := by decide +kernel
theorem dX12_feed_53 : decode cX12_feed 53 = .ok (.getfield 22, 3) := by decide +kernel
theorem dX12_feed_56 : decode cX12_feed 56 = .ok (.aload_n 0, 1) := by decide +kernel
theorem dX12_feed_57 : decode cX12_feed 57 = .ok (.getfield 160, 3) := by decide +kernel
