theorem dX5_execute_14 : decode cX5_execute 14 = .ok (.aload_n 0, 1) := by decide +kernel
theorem dX5_execute_15 : decode cX5_execute 15 = .ok (.getfield 15, 3) := by decide +kernel
theorem dX5_execute_18 : decode cX5_execute 18 = .ok (.iload_n 1, 1) := by decide +kernel
theorem dX5_execute_19 : decode cX5_execute 19 = .ok (.iaload, 1) := by decide +kernel
theorem dX5_execute_20 : decode cX5_execute 20 = .ok (.aload_n 0, 1) := by decide +kernel
theorem dX5_execute_21 : decode cX5_execute 21 = .ok (.getfield 9, 3) := by decide +kernel
theorem dX5_execute_24 : decode cX5_execute 24 = .ok (.iload_n 1, 1) := by decide +kernel
theorem dX5_execute_25 : decode cX5_execute 25 = .ok (.iaload, 1) := by decide +kernel
theorem dX5_execute_26 : decode cX5_execute 26 = .ok (.aload_n 0, 1) := by decide +kernel
theorem dX5_execute_27 : decode cX5_execute 27 = .ok (.getfield 28, 3) := by decide +kernel
theorem dX5_execute_30 : decode cX5_execute 30 = .ok (.aload_n 0, 1) := by decide +kernel
theorem dX5_execute_31 : decode cX5_execute 31 = .ok (.getfield 18, 3) := by decide +kernel
theorem dX5_execute_34 : decode cX5_execute 34 = .ok (.iload_n 1, 1) := by decide +kernel
theorem dX5_execute_35 : decode cX5_execute 35 = .ok (.iaload, 1) := by decide +kernel
theorem dX5_execute_36 : decode cX5_execute 36 = .ok (.iaload, 1) := by decide +kernel
theorem dX5_execute_37 : decode cX5_execute 37 = .ok (.aload_n 0, 1) := by decide +kernel
theorem dX5_execute_38 : decode cX5_execute 38 = .ok (.getfield 28, 3) := by decide +kernel
theorem dX5_execute_41 : decode cX5_execute 41 = .ok (.aload_n 0, 1) := by decide +kernel
theorem dX5_execute_42 : decode cX5_execute 42 = .ok (.getfield 21, 3) := by decide +kernel
theorem dX5_execute_45 : decode cX5_execute 45 = .ok (.iload_n 1, 1) := by decide +kernel
theorem dX5_execute_46 : decode cX5_execute 46 = .ok (.iaload, 1) := by decide +kernel
theorem dX5_execute_47 : decode cX5_execute 47 = .ok (.iaload, 1) := by decide +kernel
theorem dX5_execute_48 : decode cX5_execute 48 = .ok (.invokestatic 49, 3) := by decide +kernel
theorem dX5_execute_51 : decode cX5_execute 51 = .ok (.iastore, 1) := by decide +kernel
theorem dX5_execute_52 : decode cX5_execute 52 = .ok (.iinc 1 1, 3) := by decide +kernel
theorem dX5_execute_55 : decode cX5_execute 55 = .ok (.goto (-53), 3) := by decide +kernel
theorem dX5_execute_58 : decode cX5_execute 58 = .ok (.return_, 1) := by decide +kernel
theorem dX5_result_0 : decode cX5_result 0 = .ok (.iload_n 0, 1) := by decide +kernel
theorem dX5_result_1 : decode cX5_result 1 = .ok (.tableswitch 49 1 4 #[31, 35, 39, 43], 31) := by decide +kernel
theorem dX5_result_32 : decode cX5_result 32 = .ok (.iload_n 1, 1) := by decide +kernel
theorem dX5_result_33 : decode cX5_result 33 = .ok (.iload_n 2, 1) := by decide +kernel
theorem dX5_result_34 : decode cX5_result 34 = .ok (.iadd, 1) := by decide +kernel
theorem dX5_result_35 : decode cX5_result 35 = .ok (.ireturn, 1) := by decide +kernel
theorem dX5_result_36 : decode cX5_result 36 = .ok (.iload_n 1, 1) := by decide +kernel
theorem dX5_result_37 : decode cX5_result 37 = .ok (.iload_n 2, 1) := by decide +kernel
theorem dX5_result_38 : decode cX5_result 38 = .ok (.isub, 1) := by decide +kernel
theorem dX5_result_39 : decode cX5_result 39 = .ok (.ireturn, 1) := by decide +kernel
theorem dX5_result_40 : decode cX5_result 40 = .ok (.iload_n 1, 1) := by decide +kernel
theorem dX5_result_41 : decode cX5_result 41 = .ok (.iload_n 2, 1) := by decide +kernel
theorem dX5_result_42 : decode cX5_result 42 = .ok (.imul, 1) := by decide +kernel
theorem dX5_result_43 : decode cX5_result 43 = .ok (.ireturn, 1) := by decide +kernel
theorem dX5_result_44 : decode cX5_result 44 = .ok (.iload_n 1, 1) := by decide +kernel
theorem dX5_result_45 : decode cX5_result 45 = .ok (.iload_n 2, 1) := by decide +kernel
theorem dX5_result_46 : decode cX5_result 46 = .ok (.invokestatic 53, 3) := by decide +kernel
theorem dX5_result_49 : decode cX5_result 49 = .ok (.ireturn, 1) := by decide +kernel
theorem dX5_result_50 : decode cX5_result 50 = .ok (.iload_n 1, 1) := by decide +kernel
theorem dX5_result_51 : decode cX5_result 51 = .ok (.ireturn, 1) := by decide +kernel
theorem dX6_init_0 : decode cX6_init 0 = .ok (.aload_n 0, 1) := by decide +kernel
theorem dX6_init_1 : decode cX6_init 1 = .ok (.invokespecial 3, 3) := by decide +kernel
theorem dX6_init_4 : decode cX6_init 4 = .ok (.aload_n 0, 1) := by decide +kernel
theorem dX6_init_5 : decode cX6_init 5 = .ok (.bipush 49, 2) := by decide +kernel
theorem dX6_init_7 : decode cX6_init 7 = .ok (.newarray .int, 2) := by decide +kernel
theorem dX6_init_9 : decode cX6_init 9 = .ok (.putfield 9, 3) := by decide +kernel
theorem dX6_init_12 : decode cX6_init 12 = .ok (.aload_n 0, 1) := by decide +kernel
theorem dX6_init_13 : decode cX6_init 13 = .ok (.bipush 64, 2) := by decide +kernel
theorem dX6_init_15 : decode cX6_init 15 = .ok (.newarray .int, 2) := by decide +kernel
theorem dX6_init_17 : decode cX6_init 17 = .ok (.putfield 15, 3) := by decide +kernel
theorem dX6_init_20 : decode cX6_init 20 = .ok (.aload_n 0, 1) := by decide +kernel
theorem dX6_init_21 : decode cX6_init 21 = .ok (.bipush 20, 2) := by decide +kernel
theorem dX6_init_23 : decode cX6_init 23 = .ok (.newarray .int, 2) := by decide +kernel
theorem dX6_init_25 : decode cX6_init 25 = .ok (.putfield 18, 3) := by decide +kernel
theorem dX6_init_28 : decode cX6_init 28 = .ok (.aload_n 0, 1) := by decide +kernel
theorem dX6_init_29 : decode cX6_init 29 = .ok (.bipush 20, 2) := by decide +kernel
theorem dX6_init_31 : decode cX6_init 31 = .ok (.newarray .int, 2) := by decide +kernel
theorem dX6_init_33 : decode cX6_init 33 = .ok (.putfield 21, 3) := by decide +kernel
theorem dX6_init_36 : decode cX6_init 36 = .ok (.aload_n 0, 1) := by decide +kernel
theorem dX6_init_37 : decode cX6_init 37 = .ok (.bipush 20, 2) := by decide +kernel
theorem dX6_init_39 : decode cX6_init 39 = .ok (.newarray .int, 2) := by decide +kernel
theorem dX6_init_41 : decode cX6_init 41 = .ok (.putfield 24, 3) := by decide +kernel
theorem dX6_init_44 : decode cX6_init 44 = .ok (.aload_n 0, 1) := by decide +kernel
theorem dX6_init_45 : decode cX6_init 45 = .ok (.bipush 8, 2) := by decide +kernel
theorem dX6_init_47 : decode cX6_init 47 = .ok (.newarray .int, 2) := by decide +kernel
theorem dX6_init_49 : decode cX6_init 49 = .ok (.putfield 27, 3) := by decide +kernel
theorem dX6_init_52 : decode cX6_init 52 = .ok (.return_, 1) := by decide +kernel
theorem dX6_trace_0 : decode cX6_trace 0 = .ok (.aload_n 0, 1) := by decide +kernel
theorem dX6_trace_1 : decode cX6_trace 1 = .ok (.getfield 9, 3) := by decide +kernel
theorem dX6_trace_4 : decode cX6_trace 4 = .ok (.iconst 0, 1) := by decide +kernel
theorem dX6_trace_5 : decode cX6_trace 5 = .ok (.invokestatic 30, 3) := by decide +kernel
theorem dX6_trace_8 : decode cX6_trace 8 = .ok (.aload_n 0, 1) := by decide +kernel
theorem dX6_trace_9 : decode cX6_trace 9 = .ok (.iconst 0, 1) := by decide +kernel
theorem dX6_trace_10 : decode cX6_trace 10 = .ok (.putfield 36, 3) := by decide +kernel
theorem dX6_trace_13 : decode cX6_trace 13 = .ok (.aload_n 0, 1) := by decide +kernel
theorem dX6_trace_14 : decode cX6_trace 14 = .ok (.iload_n 2, 1) := by decide +kernel
theorem dX6_trace_15 : decode cX6_trace 15 = .ok (.putfield 40, 3) := by decide +kernel
theorem dX6_trace_18 : decode cX6_trace 18 = .ok (.aload_n 0, 1) := by decide +kernel
theorem dX6_trace_19 : decode cX6_trace 19 = .ok (.bipush 7, 2) := by decide +kernel
theorem dX6_trace_21 : decode cX6_trace 21 = .ok (.putfield 43, 3) := by decide +kernel
theorem dX6_trace_24 : decode cX6_trace 24 = .ok (.aload_n 0, 1) := by decide +kernel
theorem dX6_trace_25 : decode cX6_trace 25 = .ok (.iconst 0, 1) := by decide +kernel
theorem dX6_trace_26 : decode cX6_trace 26 = .ok (.putfield 46, 3) := by decide +kernel
theorem dX6_trace_29 : decode cX6_trace 29 = .ok (.iconst 0, 1) := by decide +kernel
theorem dX6_trace_30 : decode cX6_trace 30 = .ok (.istore 5, 2) := by decide +kernel
theorem dX6_trace_32 : decode cX6_trace 32 = .ok (.iload 5, 2) := by decide +kernel
theorem dX6_trace_34 : decode cX6_trace 34 = .ok (.aload_n 1, 1) := by decide +kernel
theorem dX6_trace_35 : decode cX6_trace 35 = .ok (.getfield 50, 3) := by decide +kernel
theorem dX6_trace_38 : decode cX6_trace 38 = .ok (.if_icmp .ge 113, 3) := by decide +kernel
theorem dX6_trace_41 : decode cX6_trace 41 = .ok (.aload_n 1, 1) := by decide +kernel
theorem dX6_trace_42 : decode cX6_trace 42 = .ok (.getfield 55, 3) := by decide +kernel
theorem dX6_trace_45 : decode cX6_trace 45 = .ok (.iload 5, 2) := by decide +kernel
theorem dX6_trace_47 : decode cX6_trace 47 = .ok (.iaload, 1) := by decide +kernel
theorem dX6_trace_48 : decode cX6_trace 48 = .ok (.istore 6, 2) := by decide +kernel
theorem dX6_trace_50 : decode cX6_trace 50 = .ok (.aload_n 1, 1) := by decide +kernel
theorem dX6_trace_51 : decode cX6_trace 51 = .ok (.getfield 58, 3) := by decide +kernel
theorem dX6_trace_54 : decode cX6_trace 54 = .ok (.iload 5, 2) := by decide +kernel
theorem dX6_trace_56 : decode cX6_trace 56 = .ok (.iaload, 1) := by decide +kernel
theorem dX6_trace_57 : decode cX6_trace 57 = .ok (.istore 7, 2) := by decide +kernel
theorem dX6_trace_59 : decode cX6_trace 59 = .ok (.iload_n 3, 1) := by decide +kernel
theorem dX6_trace_60 : decode cX6_trace 60 = .ok (.iload 5, 2) := by decide +kernel
theorem dX6_trace_62 : decode cX6_trace 62 = .ok (.ishr, 1) := by decide +kernel
theorem dX6_trace_63 : decode cX6_trace 63 = .ok (.iconst 1, 1) := by decide +kernel
theorem dX6_trace_64 : decode cX6_trace 64 = .ok (.iand, 1) := by decide +kernel
theorem dX6_trace_65 : decode cX6_trace 65 = .ok (.ifCond .eq 32, 3) := by decide +kernel
theorem dX6_trace_68 : decode cX6_trace 68 = .ok (.aload_n 0, 1) := by decide +kernel
theorem dX6_trace_69 : decode cX6_trace 69 = .ok (.iload 6, 2) := by decide +kernel
theorem dX6_trace_71 : decode cX6_trace 71 = .ok (.invokevirtual 61, 3) := by decide +kernel
theorem dX6_trace_74 : decode cX6_trace 74 = .ok (.ifCond .eq 23, 3) := by decide +kernel
theorem dX6_trace_77 : decode cX6_trace 77 = .ok (.aload_n 0, 1) := by decide +kernel
theorem dX6_trace_78 : decode cX6_trace 78 = .ok (.iload 7, 2) := by decide +kernel
theorem dX6_trace_80 : decode cX6_trace 80 = .ok (.invokevirtual 61, 3) := by decide +kernel
theorem dX6_trace_83 : decode cX6_trace 83 = .ok (.ifCond .eq 14, 3) := by decide +kernel
theorem dX6_trace_86 : decode cX6_trace 86 = .ok (.aload_n 0, 1) := by decide +kernel
theorem dX6_trace_87 : decode cX6_trace 87 = .ok (.iload 6, 2) := by decide +kernel
theorem dX6_trace_89 : decode cX6_trace 89 = .ok (.iload 7, 2) := by decide +kernel
theorem dX6_trace_91 : decode cX6_trace 91 = .ok (.invokevirtual 65, 3) := by decide +kernel
theorem dX6_trace_94 : decode cX6_trace 94 = .ok (.goto 40, 3) := by decide +kernel
theorem dX6_trace_97 : decode cX6_trace 97 = .ok (.iload 4, 2) := by decide +kernel
theorem dX6_trace_99 : decode cX6_trace 99 = .ok (.iload 5, 2) := by decide +kernel
theorem dX6_trace_101 : decode cX6_trace 101 = .ok (.ishr, 1) := by decide +kernel
theorem dX6_trace_102 : decode cX6_trace 102 = .ok (.iconst 1, 1) := by decide +kernel
theorem dX6_trace_103 : decode cX6_trace 103 = .ok (.iand, 1) := by decide +kernel
theorem dX6_trace_104 : decode cX6_trace 104 = .ok (.ifCond .eq 18, 3) := by decide +kernel
theorem dX6_trace_107 : decode cX6_trace 107 = .ok (.aload_n 0, 1) := by decide +kernel
theorem dX6_trace_108 : decode cX6_trace 108 = .ok (.iload 7, 2) := by decide +kernel
theorem dX6_trace_110 : decode cX6_trace 110 = .ok (.invokevirtual 69, 3) := by decide +kernel
theorem dX6_trace_113 : decode cX6_trace 113 = .ok (.aload_n 0, 1) := by decide +kernel
theorem dX6_trace_114 : decode cX6_trace 114 = .ok (.iload 6, 2) := by decide +kernel
theorem dX6_trace_116 : decode cX6_trace 116 = .ok (.invokevirtual 69, 3) := by decide +kernel
theorem dX6_trace_119 : decode cX6_trace 119 = .ok (.goto 15, 3) := by decide +kernel
theorem dX6_trace_122 : decode cX6_trace 122 = .ok (.aload_n 0, 1) := by decide +kernel
theorem dX6_trace_123 : decode cX6_trace 123 = .ok (.iload 6, 2) := by decide +kernel
theorem dX6_trace_125 : decode cX6_trace 125 = .ok (.invokevirtual 69, 3) := by decide +kernel
theorem dX6_trace_128 : decode cX6_trace 128 = .ok (.aload_n 0, 1) := by decide +kernel
theorem dX6_trace_129 : decode cX6_trace 129 = .ok (.iload 7, 2) := by decide +kernel
theorem dX6_trace_131 : decode cX6_trace 131 = .ok (.invokevirtual 69, 3) := by decide +kernel
theorem dX6_trace_134 : decode cX6_trace 134 = .ok (.aload_n 0, 1) := by decide +kernel
theorem dX6_trace_135 : decode cX6_trace 135 = .ok (.aload_n 1, 1) := by decide +kernel
theorem dX6_trace_136 : decode cX6_trace 136 = .ok (.getfield 73, 3) := by decide +kernel
theorem dX6_trace_139 : decode cX6_trace 139 = .ok (.iload 5, 2) := by decide +kernel
theorem dX6_trace_141 : decode cX6_trace 141 = .ok (.iaload, 1) := by decide +kernel
theorem dX6_trace_142 : decode cX6_trace 142 = .ok (.invokevirtual 69, 3) := by decide +kernel
theorem dX6_trace_145 : decode cX6_trace 145 = .ok (.iinc 5 1, 3) := by decide +kernel
theorem dX6_trace_148 : decode cX6_trace 148 = .ok (.goto (-116), 3) := by decide +kernel
theorem dX6_trace_151 : decode cX6_trace 151 = .ok (.return_, 1) := by decide +kernel
theorem dX6_cost_0 : decode cX6_cost 0 = .ok (.aload_n 0, 1) := by decide +kernel
theorem dX6_cost_1 : decode cX6_cost 1 = .ok (.getfield 43, 3) := by decide +kernel
theorem dX6_cost_4 : decode cX6_cost 4 = .ok (.bipush 7, 2) := by decide +kernel
theorem dX6_cost_6 : decode cX6_cost 6 = .ok (.if_icmp .ne 12, 3) := by decide +kernel
theorem dX6_cost_9 : decode cX6_cost 9 = .ok (.aload_n 0, 1) := by decide +kernel
theorem dX6_cost_10 : decode cX6_cost 10 = .ok (.getfield 46, 3) := by decide +kernel
theorem dX6_cost_13 : decode cX6_cost 13 = .ok (.ifCond .ne 5, 3) := by decide +kernel
theorem dX6_cost_16 : decode cX6_cost 16 = .ok (.iconst 0, 1) := by decide +kernel
theorem dX6_cost_17 : decode cX6_cost 17 = .ok (.ireturn, 1) := by decide +kernel
theorem dX6_cost_18 : decode cX6_cost 18 = .ok (.aload_n 1, 1) := by decide +kernel
theorem dX6_cost_19 : decode cX6_cost 19 = .ok (.iconst 0, 1) := by decide +kernel
theorem dX6_cost_20 : decode cX6_cost 20 = .ok (.aload_n 0, 1) := by decide +kernel
theorem dX6_cost_21 : decode cX6_cost 21 = .ok (.getfield 27, 3) := by decide +kernel
theorem dX6_cost_24 : decode cX6_cost 24 = .ok (.iconst 0, 1) := by decide +kernel
theorem dX6_cost_25 : decode cX6_cost 25 = .ok (.bipush 7, 2) := by decide +kernel
theorem dX6_cost_27 : decode cX6_cost 27 = .ok (.invokestatic 76, 3) := by decide +kernel
theorem dX6_cost_30 : decode cX6_cost 30 = .ok (.aload_n 0, 1) := by decide +kernel
theorem dX6_cost_31 : decode cX6_cost 31 = .ok (.getfield 27, 3) := by decide +kernel
theorem dX6_cost_34 : decode cX6_cost 34 = .ok (.bipush 7, 2) := by decide +kernel
theorem dX6_cost_36 : decode cX6_cost 36 = .ok (.bipush 7, 2) := by decide +kernel
theorem dX6_cost_38 : decode cX6_cost 38 = .ok (.iastore, 1) := by decide +kernel
theorem dX6_cost_39 : decode cX6_cost 39 = .ok (.iconst 1, 1) := by decide +kernel
theorem dX6_cost_40 : decode cX6_cost 40 = .ok (.aload_n 0, 1) := by decide +kernel
theorem dX6_cost_41 : decode cX6_cost 41 = .ok (.aload_n 0, 1) := by decide +kernel
theorem dX6_cost_42 : decode cX6_cost 42 = .ok (.getfield 27, 3) := by decide +kernel
theorem dX6_cost_45 : decode cX6_cost 45 = .ok (.invokevirtual 82, 3) := by decide +kernel
theorem dX6_cost_48 : decode cX6_cost 48 = .ok (.iadd, 1) := by decide +kernel
theorem dX6_cost_49 : decode cX6_cost 49 = .ok (.istore_n 2, 1) := by decide +kernel
theorem dX6_cost_50 : decode cX6_cost 50 = .ok (.iconst 1, 1) := by decide +kernel
theorem dX6_cost_51 : decode cX6_cost 51 = .ok (.istore_n 3, 1) := by decide +kernel
theorem dX6_cost_52 : decode cX6_cost 52 = .ok (.iload_n 3, 1) := by decide +kernel
theorem dX6_cost_53 : decode cX6_cost 53 = .ok (.bipush 7, 2) := by decide +kernel
theorem dX6_cost_55 : decode cX6_cost 55 = .ok (.if_icmp .ge 21, 3) := by decide +kernel
theorem dX6_cost_58 : decode cX6_cost 58 = .ok (.iload_n 2, 1) := by decide +kernel
theorem dX6_cost_59 : decode cX6_cost 59 = .ok (.aload_n 0, 1) := by decide +kernel
theorem dX6_cost_60 : decode cX6_cost 60 = .ok (.iload_n 3, 1) := by decide +kernel
theorem dX6_cost_61 : decode cX6_cost 61 = .ok (.aload_n 0, 1) := by decide +kernel
theorem dX6_cost_62 : decode cX6_cost 62 = .ok (.getfield 27, 3) := by decide +kernel
theorem dX6_cost_65 : decode cX6_cost 65 = .ok (.invokevirtual 86, 3) := by decide +kernel
theorem dX6_cost_68 : decode cX6_cost 68 = .ok (.iadd, 1) := by decide +kernel
theorem dX6_cost_69 : decode cX6_cost 69 = .ok (.istore_n 2, 1) := by decide +kernel
theorem dX6_cost_70 : decode cX6_cost 70 = .ok (.iinc 3 1, 3) := by decide +kernel
theorem dX6_cost_73 : decode cX6_cost 73 = .ok (.goto (-21), 3) := by decide +kernel
theorem dX6_cost_76 : decode cX6_cost 76 = .ok (.iload_n 2, 1) := by decide +kernel
theorem dX6_cost_77 : decode cX6_cost 77 = .ok (.ireturn, 1) := by decide +kernel
theorem dX6_pairCost_0 : decode cX6_pairCost 0 = .ok (.iconst 0, 1) := by decide +kernel
theorem dX6_pairCost_1 : decode cX6_pairCost 1 = .ok (.istore_n 3, 1) := by decide +kernel
theorem dX6_pairCost_2 : decode cX6_pairCost 2 = .ok (.aload_n 2, 1) := by decide +kernel
theorem dX6_pairCost_3 : decode cX6_pairCost 3 = .ok (.iload_n 1, 1) := by decide +kernel
theorem dX6_pairCost_4 : decode cX6_pairCost 4 = .ok (.iaload, 1) := by decide +kernel
theorem dX6_pairCost_5 : decode cX6_pairCost 5 = .ok (.bipush 8, 2) := by decide +kernel
theorem dX6_pairCost_7 : decode cX6_pairCost 7 = .ok (.imul, 1) := by decide +kernel
theorem dX6_pairCost_8 : decode cX6_pairCost 8 = .ok (.istore 4, 2) := by decide +kernel
theorem dX6_pairCost_10 : decode cX6_pairCost 10 = .ok (.iconst 0, 1) := by decide +kernel
theorem dX6_pairCost_11 : decode cX6_pairCost 11 = .ok (.istore 5, 2) := by decide +kernel
theorem dX6_pairCost_13 : decode cX6_pairCost 13 = .ok (.iload 5, 2) := by decide +kernel
theorem dX6_pairCost_15 : decode cX6_pairCost 15 = .ok (.iload_n 1, 1) := by decide +kernel
theorem dX6_pairCost_16 : decode cX6_pairCost 16 = .ok (.if_icmp .ge 37, 3) := by decide +kernel
theorem dX6_pairCost_19 : decode cX6_pairCost 19 = .ok (.iload_n 3, 1) := by decide +kernel
theorem dX6_pairCost_20 : decode cX6_pairCost 20 = .ok (.aload_n 0, 1) := by decide +kernel
theorem dX6_pairCost_21 : decode cX6_pairCost 21 = .ok (.getfield 9, 3) := by decide +kernel
theorem dX6_pairCost_24 : decode cX6_pairCost 24 = .ok (.iload_n 1, 1) := by decide +kernel
theorem dX6_pairCost_25 : decode cX6_pairCost 25 = .ok (.bipush 7, 2) := by decide +kernel
theorem dX6_pairCost_27 : decode cX6_pairCost 27 = .ok (.imul, 1) := by decide +kernel
theorem dX6_pairCost_28 : decode cX6_pairCost 28 = .ok (.iload 5, 2) := by decide +kernel
theorem dX6_pairCost_30 : decode cX6_pairCost 30 = .ok (.iadd, 1) := by decide +kernel
theorem dX6_pairCost_31 : decode cX6_pairCost 31 = .ok (.iaload, 1) := by decide +kernel
theorem dX6_pairCost_32 : decode cX6_pairCost 32 = .ok (.aload_n 0, 1) := by decide +kernel
theorem dX6_pairCost_33 : decode cX6_pairCost 33 = .ok (.getfield 15, 3) := by decide +kernel
theorem dX6_pairCost_36 : decode cX6_pairCost 36 = .ok (.iload 4, 2) := by decide +kernel
theorem dX6_pairCost_38 : decode cX6_pairCost 38 = .ok (.aload_n 2, 1) := by decide +kernel
theorem dX6_pairCost_39 : decode cX6_pairCost 39 = .ok (.iload 5, 2) := by decide +kernel
theorem dX6_pairCost_41 : decode cX6_pairCost 41 = .ok (.iaload, 1) := by decide +kernel
theorem dX6_pairCost_42 : decode cX6_pairCost 42 = .ok (.iadd, 1) := by decide +kernel
theorem dX6_pairCost_43 : decode cX6_pairCost 43 = .ok (.iaload, 1) := by decide +kernel
theorem dX6_pairCost_44 : decode cX6_pairCost 44 = .ok (.imul, 1) := by decide +kernel
theorem dX6_pairCost_45 : decode cX6_pairCost 45 = .ok (.iadd, 1) := by decide +kernel
theorem dX6_pairCost_46 : decode cX6_pairCost 46 = .ok (.istore_n 3, 1) := by decide +kernel
theorem dX6_pairCost_47 : decode cX6_pairCost 47 = .ok (.iinc 5 1, 3) := by decide +kernel
theorem dX6_pairCost_50 : decode cX6_pairCost 50 = .ok (.goto (-37), 3) := by decide +kernel
theorem dX6_pairCost_53 : decode cX6_pairCost 53 = .ok (.iload_n 3, 1) := by decide +kernel
theorem dX6_pairCost_54 : decode cX6_pairCost 54 = .ok (.ireturn, 1) := by decide +kernel
theorem dX6_forkCost_0 : decode cX6_forkCost 0 = .ok (.iconst 0, 1) := by decide +kernel
theorem dX6_forkCost_1 : decode cX6_forkCost 1 = .ok (.istore_n 2, 1) := by decide +kernel
theorem dX6_forkCost_2 : decode cX6_forkCost 2 = .ok (.bipush 7, 2) := by decide +kernel
theorem dX6_forkCost_4 : decode cX6_forkCost 4 = .ok (.istore_n 3, 1) := by decide +kernel
theorem dX6_forkCost_5 : decode cX6_forkCost 5 = .ok (.bipush 7, 2) := by decide +kernel
theorem dX6_forkCost_7 : decode cX6_forkCost 7 = .ok (.istore 4, 2) := by decide +kernel
theorem dX6_forkCost_9 : decode cX6_forkCost 9 = .ok (.iconst 0, 1) := by decide +kernel
theorem dX6_forkCost_10 : decode cX6_forkCost 10 = .ok (.istore 5, 2) := by decide +kernel
theorem dX6_forkCost_12 : decode cX6_forkCost 12 = .ok (.iconst 0, 1) := by decide +kernel
theorem dX6_forkCost_13 : decode cX6_forkCost 13 = .ok (.istore 6, 2) := by decide +kernel
theorem dX6_forkCost_15 : decode cX6_forkCost 15 = .ok (.iconst 0, 1) := by decide +kernel
theorem dX6_forkCost_16 : decode cX6_forkCost 16 = .ok (.istore 7, 2) := by decide +kernel
theorem dX6_forkCost_18 : decode cX6_forkCost 18 = .ok (.iload 7, 2) := by decide +kernel
theorem dX6_forkCost_20 : decode cX6_forkCost 20 = .ok (.aload_n 0, 1) := by decide +kernel
theorem dX6_forkCost_21 : decode cX6_forkCost 21 = .ok (.getfield 36, 3) := by decide +kernel
theorem dX6_forkCost_24 : decode cX6_forkCost 24 = .ok (.if_icmp .ge 169, 3) := by decide +kernel
theorem dX6_forkCost_27 : decode cX6_forkCost 27 = .ok (.aload_n 1, 1) := by decide +kernel
theorem dX6_forkCost_28 : decode cX6_forkCost 28 = .ok (.aload_n 0, 1) := by decide +kernel
theorem dX6_forkCost_29 : decode cX6_forkCost 29 = .ok (.getfield 21, 3) := by decide +kernel
theorem dX6_forkCost_32 : decode cX6_forkCost 32 = .ok (.iload 7, 2) := by decide +kernel
theorem dX6_forkCost_34 : decode cX6_forkCost 34 = .ok (.iaload, 1) := by decide +kernel
theorem dX6_forkCost_35 : decode cX6_forkCost 35 = .ok (.iaload, 1) := by decide +kernel
theorem dX6_forkCost_36 : decode cX6_forkCost 36 = .ok (.istore 8, 2) := by decide +kernel
theorem dX6_forkCost_38 : decode cX6_forkCost 38 = .ok (.aload_n 0, 1) := by decide +kernel
theorem dX6_forkCost_39 : decode cX6_forkCost 39 = .ok (.getfield 18, 3) := by decide +kernel
theorem dX6_forkCost_42 : decode cX6_forkCost 42 = .ok (.iload 7, 2) := by decide +kernel
theorem dX6_forkCost_44 : decode cX6_forkCost 44 = .ok (.iaload, 1) := by decide +kernel
theorem dX6_forkCost_45 : decode cX6_forkCost 45 = .ok (.iconst (-1), 1) := by decide +kernel
theorem dX6_forkCost_46 : decode cX6_forkCost 46 = .ok (.if_icmp .eq 22, 3) := by decide +kernel
theorem dX6_forkCost_49 : decode cX6_forkCost 49 = .ok (.aload_n 1, 1) := by decide +kernel
theorem dX6_forkCost_50 : decode cX6_forkCost 50 = .ok (.aload_n 0, 1) := by decide +kernel
theorem dX6_forkCost_51 : decode cX6_forkCost 51 = .ok (.getfield 18, 3) := by decide +kernel
theorem dX6_forkCost_54 : decode cX6_forkCost 54 = .ok (.iload 7, 2) := by decide +kernel
theorem dX6_forkCost_56 : decode cX6_forkCost 56 = .ok (.iaload, 1) := by decide +kernel
theorem dX6_forkCost_57 : decode cX6_forkCost 57 = .ok (.iaload, 1) := by decide +kernel
theorem dX6_forkCost_58 : decode cX6_forkCost 58 = .ok (.istore_n 3, 1) := by decide +kernel
theorem dX6_forkCost_59 : decode cX6_forkCost 59 = .ok (.iload_n 3, 1) := by decide +kernel
theorem dX6_forkCost_60 : decode cX6_forkCost 60 = .ok (.istore 4, 2) := by decide +kernel
theorem dX6_forkCost_62 : decode cX6_forkCost 62 = .ok (.iload_n 2, 1) := by decide +kernel
theorem dX6_forkCost_63 : decode cX6_forkCost 63 = .ok (.istore 5, 2) := by decide +kernel
theorem dX6_forkCost_65 : decode cX6_forkCost 65 = .ok (.iload_n 2, 1) := by decide +kernel
theorem dX6_forkCost_66 : decode cX6_forkCost 66 = .ok (.istore 6, 2) := by decide +kernel
theorem dX6_forkCost_68 : decode cX6_forkCost 68 = .ok (.iload 5, 2) := by decide +kernel
theorem dX6_forkCost_70 : decode cX6_forkCost 70 = .ok (.aload_n 0, 1) := by decide +kernel
theorem dX6_forkCost_71 : decode cX6_forkCost 71 = .ok (.getfield 15, 3) := by decide +kernel
theorem dX6_forkCost_74 : decode cX6_forkCost 74 = .ok (.iload_n 3, 1) := by decide +kernel
theorem dX6_forkCost_75 : decode cX6_forkCost 75 = .ok (.bipush 8, 2) := by decide +kernel
theorem dX6_forkCost_77 : decode cX6_forkCost 77 = .ok (.imul, 1) := by decide +kernel
theorem dX6_forkCost_78 : decode cX6_forkCost 78 = .ok (.iload 8, 2) := by decide +kernel
theorem dX6_forkCost_80 : decode cX6_forkCost 80 = .ok (.iadd, 1) := by decide +kernel
theorem dX6_forkCost_81 : decode cX6_forkCost 81 = .ok (.iaload, 1) := by decide +kernel
theorem dX6_forkCost_82 : decode cX6_forkCost 82 = .ok (.iadd, 1) := by decide +kernel
theorem dX6_forkCost_83 : decode cX6_forkCost 83 = .ok (.iload 6, 2) := by decide +kernel
theorem dX6_forkCost_85 : decode cX6_forkCost 85 = .ok (.aload_n 0, 1) := by decide +kernel
theorem dX6_forkCost_86 : decode cX6_forkCost 86 = .ok (.getfield 15, 3) := by decide +kernel
theorem dX6_forkCost_89 : decode cX6_forkCost 89 = .ok (.iload 4, 2) := by decide +kernel
theorem dX6_forkCost_91 : decode cX6_forkCost 91 = .ok (.bipush 8, 2) := by decide +kernel
theorem dX6_forkCost_93 : decode cX6_forkCost 93 = .ok (.imul, 1) := by decide +kernel
theorem dX6_forkCost_94 : decode cX6_forkCost 94 = .ok (.iload 8, 2) := by decide +kernel
theorem dX6_forkCost_96 : decode cX6_forkCost 96 = .ok (.iadd, 1) := by decide +kernel
theorem dX6_forkCost_97 : decode cX6_forkCost 97 = .ok (.iaload, 1) := by decide +kernel
theorem dX6_forkCost_98 : decode cX6_forkCost 98 = .ok (.iadd, 1) := by decide +kernel
theorem dX6_forkCost_99 : decode cX6_forkCost 99 = .ok (.invokestatic 90, 3) := by decide +kernel
theorem dX6_forkCost_102 : decode cX6_forkCost 102 = .ok (.istore 9, 2) := by decide +kernel
theorem dX6_forkCost_104 : decode cX6_forkCost 104 = .ok (.aload_n 0, 1) := by decide +kernel
theorem dX6_forkCost_105 : decode cX6_forkCost 105 = .ok (.getfield 24, 3) := by decide +kernel
theorem dX6_forkCost_108 : decode cX6_forkCost 108 = .ok (.iload 7, 2) := by decide +kernel
theorem dX6_forkCost_110 : decode cX6_forkCost 110 = .ok (.iaload, 1) := by decide +kernel
theorem dX6_forkCost_111 : decode cX6_forkCost 111 = .ok (.iconst (-1), 1) := by decide +kernel
theorem dX6_forkCost_112 : decode cX6_forkCost 112 = .ok (.if_icmp .ne 17, 3) := by decide +kernel
theorem dX6_forkCost_115 : decode cX6_forkCost 115 = .ok (.iload 9, 2) := by decide +kernel
theorem dX6_forkCost_117 : decode cX6_forkCost 117 = .ok (.istore_n 2, 1) := by decide +kernel
theorem dX6_forkCost_118 : decode cX6_forkCost 118 = .ok (.iload 9, 2) := by decide +kernel
theorem dX6_forkCost_120 : decode cX6_forkCost 120 = .ok (.istore 5, 2) := by decide +kernel
theorem dX6_forkCost_122 : decode cX6_forkCost 122 = .ok (.iload 9, 2) := by decide +kernel
theorem dX6_forkCost_124 : decode cX6_forkCost 124 = .ok (.istore 6, 2) := by decide +kernel
theorem dX6_forkCost_126 : decode cX6_forkCost 126 = .ok (.goto 61, 3) := by decide +kernel
theorem dX6_forkCost_129 : decode cX6_forkCost 129 = .ok (.aload_n 1, 1) := by decide +kernel
theorem dX6_forkCost_130 : decode cX6_forkCost 130 = .ok (.aload_n 0, 1) := by decide +kernel
theorem dX6_forkCost_131 : decode cX6_forkCost 131 = .ok (.getfield 24, 3) := by decide +kernel
theorem dX6_forkCost_134 : decode cX6_forkCost 134 = .ok (.iload 7, 2) := by decide +kernel
theorem dX6_forkCost_136 : decode cX6_forkCost 136 = .ok (.iaload, 1) := by decide +kernel
theorem dX6_forkCost_137 : decode cX6_forkCost 137 = .ok (.iaload, 1) := by decide +kernel
theorem dX6_forkCost_138 : decode cX6_forkCost 138 = .ok (.istore 10, 2) := by decide +kernel
theorem dX6_forkCost_140 : decode cX6_forkCost 140 = .ok (.iload 5, 2) := by decide +kernel
theorem dX6_forkCost_142 : decode cX6_forkCost 142 = .ok (.aload_n 0, 1) := by decide +kernel
theorem dX6_forkCost_143 : decode cX6_forkCost 143 = .ok (.getfield 15, 3) := by decide +kernel
theorem dX6_forkCost_146 : decode cX6_forkCost 146 = .ok (.iload_n 3, 1) := by decide +kernel
theorem dX6_forkCost_147 : decode cX6_forkCost 147 = .ok (.bipush 8, 2) := by decide +kernel
theorem dX6_forkCost_149 : decode cX6_forkCost 149 = .ok (.imul, 1) := by decide +kernel
theorem dX6_forkCost_150 : decode cX6_forkCost 150 = .ok (.iload 10, 2) := by decide +kernel
theorem dX6_forkCost_152 : decode cX6_forkCost 152 = .ok (.iadd, 1) := by decide +kernel
theorem dX6_forkCost_153 : decode cX6_forkCost 153 = .ok (.iaload, 1) := by decide +kernel
theorem dX6_forkCost_154 : decode cX6_forkCost 154 = .ok (.iadd, 1) := by decide +kernel
theorem dX6_forkCost_155 : decode cX6_forkCost 155 = .ok (.iload 6, 2) := by decide +kernel
theorem dX6_forkCost_157 : decode cX6_forkCost 157 = .ok (.aload_n 0, 1) := by decide +kernel
theorem dX6_forkCost_158 : decode cX6_forkCost 158 = .ok (.getfield 15, 3) := by decide +kernel
theorem dX6_forkCost_161 : decode cX6_forkCost 161 = .ok (.iload 4, 2) := by decide +kernel
theorem dX6_forkCost_163 : decode cX6_forkCost 163 = .ok (.bipush 8, 2) := by decide +kernel
theorem dX6_forkCost_165 : decode cX6_forkCost 165 = .ok (.imul, 1) := by decide +kernel
theorem dX6_forkCost_166 : decode cX6_forkCost 166 = .ok (.iload 10, 2) := by decide +kernel
theorem dX6_forkCost_168 : decode cX6_forkCost 168 = .ok (.iadd, 1) := by decide +kernel
theorem dX6_forkCost_169 : decode cX6_forkCost 169 = .ok (.iaload, 1) := by decide +kernel
theorem dX6_forkCost_170 : decode cX6_forkCost 170 = .ok (.iadd, 1) := by decide +kernel
theorem dX6_forkCost_171 : decode cX6_forkCost 171 = .ok (.invokestatic 90, 3) := by decide +kernel
theorem dX6_forkCost_174 : decode cX6_forkCost 174 = .ok (.istore 6, 2) := by decide +kernel
theorem dX6_forkCost_176 : decode cX6_forkCost 176 = .ok (.iload 9, 2) := by decide +kernel
theorem dX6_forkCost_178 : decode cX6_forkCost 178 = .ok (.istore 5, 2) := by decide +kernel
theorem dX6_forkCost_180 : decode cX6_forkCost 180 = .ok (.iload 10, 2) := by decide +kernel
theorem dX6_forkCost_182 : decode cX6_forkCost 182 = .ok (.istore_n 3, 1) := by decide +kernel
theorem dX6_forkCost_183 : decode cX6_forkCost 183 = .ok (.iload 8, 2) := by decide +kernel
theorem dX6_forkCost_185 : decode cX6_forkCost 185 = .ok (.istore 4, 2) := by decide +kernel
theorem dX6_forkCost_187 : decode cX6_forkCost 187 = .ok (.iinc 7 1, 3) := by decide +kernel
theorem dX6_forkCost_190 : decode cX6_forkCost 190 = .ok (.goto (-172), 3) := by decide +kernel
theorem dX6_forkCost_193 : decode cX6_forkCost 193 = .ok (.iload 5, 2) := by decide +kernel
theorem dX6_forkCost_195 : decode cX6_forkCost 195 = .ok (.iload 6, 2) := by decide +kernel
theorem dX6_forkCost_197 : decode cX6_forkCost 197 = .ok (.invokestatic 90, 3) := by decide +kernel
theorem dX6_forkCost_200 : decode cX6_forkCost 200 = .ok (.ireturn, 1) := by decide +kernel
theorem dX6_areTwins_0 : decode cX6_areTwins 0 = .ok (.iconst 0, 1) := by decide +kernel
theorem dX6_areTwins_1 : decode cX6_areTwins 1 = .ok (.istore 4, 2) := by decide +kernel
theorem dX6_areTwins_3 : decode cX6_areTwins 3 = .ok (.iload 4, 2) := by decide +kernel
theorem dX6_areTwins_5 : decode cX6_areTwins 5 = .ok (.iload_n 3, 1) := by decide +kernel
theorem dX6_areTwins_6 : decode cX6_areTwins 6 = .ok (.if_icmp .ge 50, 3) := by decide +kernel
theorem dX6_areTwins_9 : decode cX6_areTwins 9 = .ok (.iload 4, 2) := by decide +kernel
theorem dX6_areTwins_11 : decode cX6_areTwins 11 = .ok (.iload_n 1, 1) := by decide +kernel
theorem dX6_areTwins_12 : decode cX6_areTwins 12 = .ok (.if_icmp .eq 38, 3) := by decide +kernel
theorem dX6_areTwins_15 : decode cX6_areTwins 15 = .ok (.iload 4, 2) := by decide +kernel
theorem dX6_areTwins_17 : decode cX6_areTwins 17 = .ok (.iload_n 2, 1) := by decide +kernel
theorem dX6_areTwins_18 : decode cX6_areTwins 18 = .ok (.if_icmp .eq 32, 3) := by decide +kernel
theorem dX6_areTwins_21 : decode cX6_areTwins 21 = .ok (.aload_n 0, 1) := by decide +kernel
theorem dX6_areTwins_22 : decode cX6_areTwins 22 = .ok (.getfield 15, 3) := by decide +kernel
theorem dX6_areTwins_25 : decode cX6_areTwins 25 = .ok (.iload 4, 2) := by decide +kernel
theorem dX6_areTwins_27 : decode cX6_areTwins 27 = .ok (.bipush 8, 2) := by decide +kernel
theorem dX6_areTwins_29 : decode cX6_areTwins 29 = .ok (.imul, 1) := by decide +kernel
theorem dX6_areTwins_30 : decode cX6_areTwins 30 = .ok (.iload_n 1, 1) := by decide +kernel
theorem dX6_areTwins_31 : decode cX6_areTwins 31 = .ok (.iadd, 1) := by decide +kernel
theorem dX6_areTwins_32 : decode cX6_areTwins 32 = .ok (.iaload, 1) := by decide +kernel
theorem dX6_areTwins_33 : decode cX6_areTwins 33 = .ok (.aload_n 0, 1) := by decide +kernel
theorem dX6_areTwins_34 : decode cX6_areTwins 34 = .ok (.getfield 15, 3) := by decide +kernel
theorem dX6_areTwins_37 : decode cX6_areTwins 37 = .ok (.iload 4, 2) := by decide +kernel
theorem dX6_areTwins_39 : decode cX6_areTwins 39 = .ok (.bipush 8, 2) := by decide +kernel
theorem dX6_areTwins_41 : decode cX6_areTwins 41 = .ok (.imul, 1) := by decide +kernel
theorem dX6_areTwins_42 : decode cX6_areTwins 42 = .ok (.iload_n 2, 1) := by decide +kernel
theorem dX6_areTwins_43 : decode cX6_areTwins 43 = .ok (.iadd, 1) := by decide +kernel
theorem dX6_areTwins_44 : decode cX6_areTwins 44 = .ok (.iaload, 1) := by decide +kernel
theorem dX6_areTwins_45 : decode cX6_areTwins 45 = .ok (.if_icmp .eq 5, 3) := by decide +kernel
theorem dX6_areTwins_48 : decode cX6_areTwins 48 = .ok (.iconst 0, 1) := by decide +kernel
theorem dX6_areTwins_49 : decode cX6_areTwins 49 = .ok (.ireturn, 1) := by decide +kernel
theorem dX6_areTwins_50 : decode cX6_areTwins 50 = .ok (.iinc 4 1, 3) := by decide +kernel
theorem dX6_areTwins_53 : decode cX6_areTwins 53 = .ok (.goto (-50), 3) := by decide +kernel
theorem dX6_areTwins_56 : decode cX6_areTwins 56 = .ok (.iconst 1, 1) := by decide +kernel
theorem dX6_areTwins_57 : decode cX6_areTwins 57 = .ok (.ireturn, 1) := by decide +kernel
theorem dX6_has_0 : decode cX6_has 0 = .ok (.aload_n 0, 1) := by decide +kernel
theorem dX6_has_1 : decode cX6_has 1 = .ok (.getfield 40, 3) := by decide +kernel
theorem dX6_has_4 : decode cX6_has 4 = .ok (.iload_n 1, 1) := by decide +kernel
theorem dX6_has_5 : decode cX6_has 5 = .ok (.ishr, 1) := by decide +kernel
theorem dX6_has_6 : decode cX6_has 6 = .ok (.iconst 1, 1) := by decide +kernel
theorem dX6_has_7 : decode cX6_has 7 = .ok (.iand, 1) := by decide +kernel
theorem dX6_has_8 : decode cX6_has 8 = .ok (.ifCond .eq 7, 3) := by decide +kernel
theorem dX6_has_11 : decode cX6_has 11 = .ok (.iconst 1, 1) := by decide +kernel
theorem dX6_has_12 : decode cX6_has 12 = .ok (.goto 4, 3) := by decide +kernel
theorem dX6_has_15 : decode cX6_has 15 = .ok (.iconst 0, 1) := by decide +kernel
theorem dX6_has_16 : decode cX6_has 16 = .ok (.ireturn, 1) := by decide +kernel
theorem dX6_pass_0 : decode cX6_pass 0 = .ok (.aload_n 0, 1) := by decide +kernel
theorem dX6_pass_1 : decode cX6_pass 1 = .ok (.iload_n 1, 1) := by decide +kernel
theorem dX6_pass_2 : decode cX6_pass 2 = .ok (.invokevirtual 61, 3) := by decide +kernel
theorem dX6_pass_5 : decode cX6_pass 5 = .ok (.ifCond .ne 4, 3) := by decide +kernel
theorem dX6_pass_8 : decode cX6_pass 8 = .ok (.return_, 1) := by decide +kernel
theorem dX6_pass_9 : decode cX6_pass 9 = .ok (.aload_n 0, 1) := by decide +kernel
theorem dX6_pass_10 : decode cX6_pass 10 = .ok (.getfield 46, 3) := by decide +kernel
theorem dX6_pass_13 : decode cX6_pass 13 = .ok (.ifCond .eq 18, 3) := by decide +kernel
theorem dX6_pass_16 : decode cX6_pass 16 = .ok (.aload_n 0, 1) := by decide +kernel
theorem dX6_pass_17 : decode cX6_pass 17 = .ok (.iconst (-1), 1) := by decide +kernel
theorem dX6_pass_18 : decode cX6_pass 18 = .ok (.iload_n 1, 1) := by decide +kernel
theorem dX6_pass_19 : decode cX6_pass 19 = .ok (.iconst (-1), 1) := by decide +kernel
theorem dX6_pass_20 : decode cX6_pass 20 = .ok (.invokevirtual 96, 3) := by decide +kernel
theorem dX6_pass_23 : decode cX6_pass 23 = .ok (.aload_n 0, 1) := by decide +kernel
theorem dX6_pass_24 : decode cX6_pass 24 = .ok (.iconst 0, 1) := by decide +kernel
theorem dX6_pass_25 : decode cX6_pass 25 = .ok (.putfield 46, 3) := by decide +kernel
theorem dX6_pass_28 : decode cX6_pass 28 = .ok (.goto 29, 3) := by decide +kernel
theorem dX6_pass_31 : decode cX6_pass 31 = .ok (.aload_n 0, 1) := by decide +kernel
theorem dX6_pass_32 : decode cX6_pass 32 = .ok (.getfield 43, 3) := by decide +kernel
theorem dX6_pass_35 : decode cX6_pass 35 = .ok (.bipush 7, 2) := by decide +kernel
theorem dX6_pass_37 : decode cX6_pass 37 = .ok (.if_icmp .eq 20, 3) := by decide +kernel
theorem dX6_pass_40 : decode cX6_pass 40 = .ok (.aload_n 0, 1) := by decide +kernel
theorem dX6_pass_41 : decode cX6_pass 41 = .ok (.getfield 43, 3) := by decide +kernel
theorem dX6_pass_44 : decode cX6_pass 44 = .ok (.iload_n 1, 1) := by decide +kernel
theorem dX6_pass_45 : decode cX6_pass 45 = .ok (.if_icmp .eq 12, 3) := by decide +kernel
theorem dX6_pass_48 : decode cX6_pass 48 = .ok (.aload_n 0, 1) := by decide +kernel
theorem dX6_pass_49 : decode cX6_pass 49 = .ok (.aload_n 0, 1) := by decide +kernel
theorem dX6_pass_50 : decode cX6_pass 50 = .ok (.getfield 43, 3) := by decide +kernel
theorem dX6_pass_53 : decode cX6_pass 53 = .ok (.iload_n 1, 1) := by decide +kernel
theorem dX6_pass_54 : decode cX6_pass 54 = .ok (.invokevirtual 100, 3) := by decide +kernel
theorem dX6_pass_57 : decode cX6_pass 57 = .ok (.aload_n 0, 1) := by decide +kernel
theorem dX6_pass_58 : decode cX6_pass 58 = .ok (.iload_n 1, 1) := by decide +kernel
theorem dX6_pass_59 : decode cX6_pass 59 = .ok (.putfield 43, 3) := by decide +kernel
theorem dX6_pass_62 : decode cX6_pass 62 = .ok (.return_, 1) := by decide +kernel
theorem dX6_fork_0 : decode cX6_fork 0 = .ok (.aload_n 0, 1) := by decide +kernel
theorem dX6_fork_1 : decode cX6_fork 1 = .ok (.aload_n 0, 1) := by decide +kernel
theorem dX6_fork_2 : decode cX6_fork 2 = .ok (.getfield 46, 3) := by decide +kernel
theorem dX6_fork_5 : decode cX6_fork 5 = .ok (.ifCond .eq 7, 3) := by decide +kernel
theorem dX6_fork_8 : decode cX6_fork 8 = .ok (.iconst (-1), 1) := by decide +kernel
theorem dX6_fork_9 : decode cX6_fork 9 = .ok (.goto 7, 3) := by decide +kernel
theorem dX6_fork_12 : decode cX6_fork 12 = .ok (.aload_n 0, 1) := by decide +kernel
theorem dX6_fork_13 : decode cX6_fork 13 = .ok (.getfield 43, 3) := by decide +kernel
theorem dX6_fork_16 : decode cX6_fork 16 = .ok (.iload_n 1, 1) := by decide +kernel
theorem dX6_fork_17 : decode cX6_fork 17 = .ok (.iload_n 2, 1) := by decide +kernel
theorem dX6_fork_18 : decode cX6_fork 18 = .ok (.invokevirtual 96, 3) := by decide +kernel
theorem dX6_fork_21 : decode cX6_fork 21 = .ok (.aload_n 0, 1) := by decide +kernel
theorem dX6_fork_22 : decode cX6_fork 22 = .ok (.iload_n 1, 1) := by decide +kernel
theorem dX6_fork_23 : decode cX6_fork 23 = .ok (.iload_n 2, 1) := by decide +kernel
theorem dX6_fork_24 : decode cX6_fork 24 = .ok (.invokevirtual 100, 3) := by decide +kernel
theorem dX6_fork_27 : decode cX6_fork 27 = .ok (.aload_n 0, 1) := by decide +kernel
theorem dX6_fork_28 : decode cX6_fork 28 = .ok (.iconst 1, 1) := by decide +kernel
theorem dX6_fork_29 : decode cX6_fork 29 = .ok (.putfield 46, 3) := by decide +kernel
theorem dX6_fork_32 : decode cX6_fork 32 = .ok (.return_, 1) := by decide +kernel
theorem dX6_pair_0 : decode cX6_pair 0 = .ok (.aload_n 0, 1) := by decide +kernel
theorem dX6_pair_1 : decode cX6_pair 1 = .ok (.getfield 9, 3) := by decide +kernel
theorem dX6_pair_4 : decode cX6_pair 4 = .ok (.iload_n 1, 1) := by decide +kernel
theorem dX6_pair_5 : decode cX6_pair 5 = .ok (.bipush 7, 2) := by decide +kernel
theorem dX6_pair_7 : decode cX6_pair 7 = .ok (.imul, 1) := by decide +kernel
theorem dX6_pair_8 : decode cX6_pair 8 = .ok (.iload_n 2, 1) := by decide +kernel
theorem dX6_pair_9 : decode cX6_pair 9 = .ok (.iadd, 1) := by decide +kernel
theorem dX6_pair_10 : decode cX6_pair 10 = .ok (.dup2, 1) := by decide +kernel
theorem dX6_pair_11 : decode cX6_pair 11 = .ok (.iaload, 1) := by decide +kernel
theorem dX6_pair_12 : decode cX6_pair 12 = .ok (.iconst 1, 1) := by decide +kernel
theorem dX6_pair_13 : decode cX6_pair 13 = .ok (.iadd, 1) := by decide +kernel
theorem dX6_pair_14 : decode cX6_pair 14 = .ok (.iastore, 1) := by decide +kernel
theorem dX6_pair_15 : decode cX6_pair 15 = .ok (.aload_n 0, 1) := by decide +kernel
theorem dX6_pair_16 : decode cX6_pair 16 = .ok (.getfield 9, 3) := by decide +kernel
theorem dX6_pair_19 : decode cX6_pair 19 = .ok (.iload_n 2, 1) := by decide +kernel
theorem dX6_pair_20 : decode cX6_pair 20 = .ok (.bipush 7, 2) := by decide +kernel
theorem dX6_pair_22 : decode cX6_pair 22 = .ok (.imul, 1) := by decide +kernel
theorem dX6_pair_23 : decode cX6_pair 23 = .ok (.iload_n 1, 1) := by decide +kernel
theorem dX6_pair_24 : decode cX6_pair 24 = .ok (.iadd, 1) := by decide +kernel
theorem dX6_pair_25 : decode cX6_pair 25 = .ok (.dup2, 1) := by decide +kernel
theorem dX6_pair_26 : decode cX6_pair 26 = .ok (.iaload, 1) := by decide +kernel
theorem dX6_pair_27 : decode cX6_pair 27 = .ok (.iconst 1, 1) := by decide +kernel
theorem dX6_pair_28 : decode cX6_pair 28 = .ok (.iadd, 1) := by decide +kernel
theorem dX6_pair_29 : decode cX6_pair 29 = .ok (.iastore, 1) := by decide +kernel
theorem dX6_pair_30 : decode cX6_pair 30 = .ok (.return_, 1) := by decide +kernel
theorem dX6_addFork_0 : decode cX6_addFork 0 = .ok (.aload_n 0, 1) := by decide +kernel
theorem dX6_addFork_1 : decode cX6_addFork 1 = .ok (.getfield 18, 3) := by decide +kernel
theorem dX6_addFork_4 : decode cX6_addFork 4 = .ok (.aload_n 0, 1) := by decide +kernel
theorem dX6_addFork_5 : decode cX6_addFork 5 = .ok (.getfield 36, 3) := by decide +kernel
theorem dX6_addFork_8 : decode cX6_addFork 8 = .ok (.iload_n 1, 1) := by decide +kernel
theorem dX6_addFork_9 : decode cX6_addFork 9 = .ok (.iastore, 1) := by decide +kernel
theorem dX6_addFork_10 : decode cX6_addFork 10 = .ok (.aload_n 0, 1) := by decide +kernel
theorem dX6_addFork_11 : decode cX6_addFork 11 = .ok (.getfield 21, 3) := by decide +kernel
theorem dX6_addFork_14 : decode cX6_addFork 14 = .ok (.aload_n 0, 1) := by decide +kernel
theorem dX6_addFork_15 : decode cX6_addFork 15 = .ok (.getfield 36, 3) := by decide +kernel
theorem dX6_addFork_18 : decode cX6_addFork 18 = .ok (.iload_n 2, 1) := by decide +kernel
theorem dX6_addFork_19 : decode cX6_addFork 19 = .ok (.iastore, 1) := by decide +kernel
theorem dX6_addFork_20 : decode cX6_addFork 20 = .ok (.aload_n 0, 1) := by decide +kernel
theorem dX6_addFork_21 : decode cX6_addFork 21 = .ok (.getfield 24, 3) := by decide +kernel
theorem dX6_addFork_24 : decode cX6_addFork 24 = .ok (.aload_n 0, 1) := by decide +kernel
theorem dX6_addFork_25 : decode cX6_addFork 25 = .ok (.getfield 36, 3) := by decide +kernel
theorem dX6_addFork_28 : decode cX6_addFork 28 = .ok (.iload_n 3, 1) := by decide +kernel
theorem dX6_addFork_29 : decode cX6_addFork 29 = .ok (.iastore, 1) := by decide +kernel
theorem dX6_addFork_30 : decode cX6_addFork 30 = .ok (.aload_n 0, 1) := by decide +kernel
theorem dX6_addFork_31 : decode cX6_addFork 31 = .ok (.dup, 1) := by decide +kernel
theorem dX6_addFork_32 : decode cX6_addFork 32 = .ok (.getfield 36, 3) := by decide +kernel
theorem dX6_addFork_35 : decode cX6_addFork 35 = .ok (.iconst 1, 1) := by decide +kernel
theorem dX6_addFork_36 : decode cX6_addFork 36 = .ok (.iadd, 1) := by decide +kernel
theorem dX6_addFork_37 : decode cX6_addFork 37 = .ok (.putfield 36, 3) := by decide +kernel
theorem dX6_addFork_40 : decode cX6_addFork 40 = .ok (.return_, 1) := by decide +kernel
theorem dX6_measure_0 : decode cX6_measure 0 = .ok (.iconst 0, 1) := by decide +kernel
theorem dX6_measure_1 : decode cX6_measure 1 = .ok (.istore_n 2, 1) := by decide +kernel
theorem dX6_measure_2 : decode cX6_measure 2 = .ok (.iload_n 2, 1) := by decide +kernel
theorem dX6_measure_3 : decode cX6_measure 3 = .ok (.bipush 7, 2) := by decide +kernel
theorem dX6_measure_5 : decode cX6_measure 5 = .ok (.if_icmp .ge 48, 3) := by decide +kernel
theorem dX6_measure_8 : decode cX6_measure 8 = .ok (.iconst 0, 1) := by decide +kernel
theorem dX6_measure_9 : decode cX6_measure 9 = .ok (.istore_n 3, 1) := by decide +kernel
theorem dX6_measure_10 : decode cX6_measure 10 = .ok (.iload_n 3, 1) := by decide +kernel
theorem dX6_measure_11 : decode cX6_measure 11 = .ok (.bipush 7, 2) := by decide +kernel
theorem dX6_measure_13 : decode cX6_measure 13 = .ok (.if_icmp .ge 34, 3) := by decide +kernel
theorem dX6_measure_16 : decode cX6_measure 16 = .ok (.aload_n 0, 1) := by decide +kernel
theorem dX6_measure_17 : decode cX6_measure 17 = .ok (.getfield 15, 3) := by decide +kernel
theorem dX6_measure_20 : decode cX6_measure 20 = .ok (.iload_n 2, 1) := by decide +kernel
theorem dX6_measure_21 : decode cX6_measure 21 = .ok (.bipush 8, 2) := by decide +kernel
theorem dX6_measure_23 : decode cX6_measure 23 = .ok (.imul, 1) := by decide +kernel
theorem dX6_measure_24 : decode cX6_measure 24 = .ok (.iload_n 3, 1) := by decide +kernel
theorem dX6_measure_25 : decode cX6_measure 25 = .ok (.iadd, 1) := by decide +kernel
theorem dX6_measure_26 : decode cX6_measure 26 = .ok (.aload_n 1, 1) := by decide +kernel
theorem dX6_measure_27 : decode cX6_measure 27 = .ok (.iload_n 2, 1) := by decide +kernel
theorem dX6_measure_28 : decode cX6_measure 28 = .ok (.iload_n 3, 1) := by decide +kernel
theorem dX6_measure_29 : decode cX6_measure 29 = .ok (.invokevirtual 103, 3) := by decide +kernel
theorem dX6_measure_32 : decode cX6_measure 32 = .ok (.ifCond .eq 7, 3) := by decide +kernel
theorem dX6_measure_35 : decode cX6_measure 35 = .ok (.iconst 1, 1) := by decide +kernel
theorem dX6_measure_36 : decode cX6_measure 36 = .ok (.goto 4, 3) := by decide +kernel
theorem dX6_measure_39 : decode cX6_measure 39 = .ok (.iconst 0, 1) := by decide +kernel
theorem dX6_measure_40 : decode cX6_measure 40 = .ok (.iastore, 1) := by decide +kernel
theorem dX6_measure_41 : decode cX6_measure 41 = .ok (.iinc 3 1, 3) := by decide +kernel
theorem dX6_measure_44 : decode cX6_measure 44 = .ok (.goto (-34), 3) := by decide +kernel
theorem dX6_measure_47 : decode cX6_measure 47 = .ok (.iinc 2 1, 3) := by decide +kernel
theorem dX6_measure_50 : decode cX6_measure 50 = .ok (.goto (-48), 3) := by decide +kernel
theorem dX6_measure_53 : decode cX6_measure 53 = .ok (.return_, 1) := by decide +kernel
theorem dX7_init_0 : decode cX7_init 0 = .ok (.aload_n 0, 1) := by decide +kernel
theorem dX7_init_1 : decode cX7_init 1 = .ok (.invokespecial 3, 3) := by decide +kernel
theorem dX7_init_4 : decode cX7_init 4 = .ok (.aload_n 0, 1) := by decide +kernel
theorem dX7_init_5 : decode cX7_init 5 = .ok (.new 9, 3) := by decide +kernel
theorem dX7_init_8 : decode cX7_init 8 = .ok (.dup, 1) := by decide +kernel
theorem dX7_init_9 : decode cX7_init 9 = .ok (.invokespecial 11, 3) := by decide +kernel
theorem dX7_init_12 : decode cX7_init 12 = .ok (.putfield 12, 3) := by decide +kernel
theorem dX7_init_15 : decode cX7_init 15 = .ok (.aload_n 0, 1) := by decide +kernel
theorem dX7_init_16 : decode cX7_init 16 = .ok (.iconst 2, 1) := by decide +kernel
theorem dX7_init_17 : decode cX7_init 17 = .ok (.anewarray 9, 3) := by decide +kernel
theorem dX7_init_20 : decode cX7_init 20 = .ok (.putfield 16, 3) := by decide +kernel
theorem dX7_init_23 : decode cX7_init 23 = .ok (.iconst 0, 1) := by decide +kernel
theorem dX7_init_24 : decode cX7_init 24 = .ok (.istore_n 1, 1) := by decide +kernel
theorem dX7_init_25 : decode cX7_init 25 = .ok (.iload_n 1, 1) := by decide +kernel
theorem dX7_init_26 : decode cX7_init 26 = .ok (.iconst 2, 1) := by decide +kernel
theorem dX7_init_27 : decode cX7_init 27 = .ok (.if_icmp .ge 22, 3) := by decide +kernel
theorem dX7_init_30 : decode cX7_init 30 = .ok (.aload_n 0, 1) := by decide +kernel
theorem dX7_init_31 : decode cX7_init 31 = .ok (.getfield 16, 3) := by decide +kernel
theorem dX7_init_34 : decode cX7_init 34 = .ok (.iload_n 1, 1) := by decide +kernel
theorem dX7_init_35 : decode cX7_init 35 = .ok (.new 9, 3) := by decide +kernel
theorem dX7_init_38 : decode cX7_init 38 = .ok (.dup, 1) := by decide +kernel
theorem dX7_init_39 : decode cX7_init 39 = .ok (.invokespecial 11, 3) := by decide +kernel
theorem dX7_init_42 : decode cX7_init 42 = .ok (.aastore, 1) := by decide +kernel
theorem dX7_init_43 : decode cX7_init 43 = .ok (.iinc 1 1, 3) := by decide +kernel
theorem dX7_init_46 : decode cX7_init 46 = .ok (.goto (-21), 3) := by decide +kernel
theorem dX7_init_49 : decode cX7_init 49 = .ok (.aload_n 0, 1) := by decide +kernel
theorem dX7_init_50 : decode cX7_init 50 = .ok (.new 20, 3) := by decide +kernel
theorem dX7_init_53 : decode cX7_init 53 = .ok (.dup, 1) := by decide +kernel
theorem dX7_init_54 : decode cX7_init 54 = .ok (.invokespecial 22, 3) := by decide +kernel
theorem dX7_init_57 : decode cX7_init 57 = .ok (.putfield 23, 3) := by decide +kernel
theorem dX7_init_60 : decode cX7_init 60 = .ok (.aload_n 0, 1) := by decide +kernel
theorem dX7_init_61 : decode cX7_init 61 = .ok (.new 27, 3) := by decide +kernel
theorem dX7_init_64 : decode cX7_init 64 = .ok (.dup, 1) := by decide +kernel
theorem dX7_init_65 : decode cX7_init 65 = .ok (.invokespecial 29, 3) := by decide +kernel
theorem dX7_init_68 : decode cX7_init 68 = .ok (.putfield 30, 3) := by decide +kernel
theorem dX7_init_71 : decode cX7_init 71 = .ok (.aload_n 0, 1) := by decide +kernel
theorem dX7_init_72 : decode cX7_init 72 = .ok (.getfield 30, 3) := by decide +kernel
theorem dX7_init_75 : decode cX7_init 75 = .ok (.aload_n 0, 1) := by decide +kernel
theorem dX7_init_76 : decode cX7_init 76 = .ok (.getfield 12, 3) := by decide +kernel
theorem dX7_init_79 : decode cX7_init 79 = .ok (.invokevirtual 34, 3) := by decide +kernel
theorem dX7_init_82 : decode cX7_init 82 = .ok (.aload_n 0, 1) := by decide +kernel
theorem dX7_init_83 : decode cX7_init 83 = .ok (.new 38, 3) := by decide +kernel
theorem dX7_init_86 : decode cX7_init 86 = .ok (.dup, 1) := by decide +kernel
theorem dX7_init_87 : decode cX7_init 87 = .ok (.aload_n 0, 1) := by decide +kernel
theorem dX7_init_88 : decode cX7_init 88 = .ok (.getfield 12, 3) := by decide +kernel
theorem dX7_init_91 : decode cX7_init 91 = .ok (.aload_n 0, 1) := by decide +kernel
theorem dX7_init_92 : decode cX7_init 92 = .ok (.getfield 30, 3) := by decide +kernel
theorem dX7_init_95 : decode cX7_init 95 = .ok (.invokespecial 40, 3) := by decide +kernel
theorem dX7_init_98 : decode cX7_init 98 = .ok (.putfield 43, 3) := by decide +kernel
theorem dX7_init_101 : decode cX7_init 101 = .ok (.aload_n 0, 1) := by decide +kernel
theorem dX7_init_102 : decode cX7_init 102 = .ok (.new 47, 3) := by decide +kernel
theorem dX7_init_105 : decode cX7_init 105 = .ok (.dup, 1) := by decide +kernel
theorem dX7_init_106 : decode cX7_init 106 = .ok (.invokespecial 49, 3) := by decide +kernel
theorem dX7_init_109 : decode cX7_init 109 = .ok (.putfield 50, 3) := by decide +kernel
theorem dX7_init_112 : decode cX7_init 112 = .ok (.return_, 1) := by decide +kernel
theorem dX7_put_0 : decode cX7_put 0 = .ok (.iload_n 1, 1) := by decide +kernel
theorem dX7_put_1 : decode cX7_put 1 = .ok (.ifCond .lt 8, 3) := by decide +kernel
theorem dX7_put_4 : decode cX7_put 4 = .ok (.iload_n 1, 1) := by decide +kernel
theorem dX7_put_5 : decode cX7_put 5 = .ok (.iconst 4, 1) := by decide +kernel
theorem dX7_put_6 : decode cX7_put 6 = .ok (.if_icmp .le 6, 3) := by decide +kernel
theorem dX7_put_9 : decode cX7_put 9 = .ok (.bipush (-2), 2) := by decide +kernel
theorem dX7_put_11 : decode cX7_put 11 = .ok (.ireturn, 1) := by decide +kernel
theorem dX7_put_12 : decode cX7_put 12 = .ok (.iload_n 2, 1) := by decide +kernel
theorem dX7_put_13 : decode cX7_put 13 = .ok (.invokestatic 54, 3) := by decide +kernel
theorem dX7_put_16 : decode cX7_put 16 = .ok (.ifCond .eq 22, 3) := by decide +kernel
theorem dX7_put_19 : decode cX7_put 19 = .ok (.iload_n 3, 1) := by decide +kernel
theorem dX7_put_20 : decode cX7_put 20 = .ok (.invokestatic 54, 3) := by decide +kernel
theorem dX7_put_23 : decode cX7_put 23 = .ok (.ifCond .eq 15, 3) := by decide +kernel
theorem dX7_put_26 : decode cX7_put 26 = .ok (.iload_n 1, 1) := by decide +kernel
theorem dX7_put_27 : decode cX7_put 27 = .ok (.ifCond .eq 13, 3) := by decide +kernel
theorem dX7_put_30 : decode cX7_put 30 = .ok (.iload 4, 2) := by decide +kernel
theorem dX7_put_32 : decode cX7_put 32 = .ok (.invokestatic 54, 3) := by decide +kernel
theorem dX7_put_35 : decode cX7_put 35 = .ok (.ifCond .ne 5, 3) := by decide +kernel
theorem dX7_put_38 : decode cX7_put 38 = .ok (.iconst (-1), 1) := by decide +kernel
theorem dX7_put_39 : decode cX7_put 39 = .ok (.ireturn, 1) := by decide +kernel
theorem dX7_put_40 : decode cX7_put 40 = .ok (.aload_n 0, 1) := by decide +kernel
theorem dX7_put_41 : decode cX7_put 41 = .ok (.getfield 12, 3) := by decide +kernel
theorem dX7_put_44 : decode cX7_put 44 = .ok (.getfield 58, 3) := by decide +kernel
theorem dX7_put_47 : decode cX7_put 47 = .ok (.bipush 10, 2) := by decide +kernel
theorem dX7_put_49 : decode cX7_put 49 = .ok (.if_icmp .lt 6, 3) := by decide +kernel
theorem dX7_put_52 : decode cX7_put 52 = .ok (.bipush (-4), 2) := by decide +kernel
theorem dX7_put_54 : decode cX7_put 54 = .ok (.ireturn, 1) := by decide +kernel
theorem dX7_put_55 : decode cX7_put 55 = .ok (.aload_n 0, 1) := by decide +kernel
theorem dX7_put_56 : decode cX7_put 56 = .ok (.getfield 12, 3) := by decide +kernel
theorem dX7_put_59 : decode cX7_put 59 = .ok (.iload_n 1, 1) := by decide +kernel
theorem dX7_put_60 : decode cX7_put 60 = .ok (.iload_n 2, 1) := by decide +kernel
theorem dX7_put_61 : decode cX7_put 61 = .ok (.iload_n 3, 1) := by decide +kernel
theorem dX7_put_62 : decode cX7_put 62 = .ok (.iload_n 1, 1) := by decide +kernel
theorem dX7_put_63 : decode cX7_put 63 = .ok (.ifCond .ne 7, 3) := by decide +kernel
theorem dX7_put_66 : decode cX7_put 66 = .ok (.iload_n 3, 1) := by decide +kernel
theorem dX7_put_67 : decode cX7_put 67 = .ok (.goto 5, 3) := by decide +kernel
theorem dX7_put_70 : decode cX7_put 70 = .ok (.iload 4, 2) := by decide +kernel
theorem dX7_put_72 : decode cX7_put 72 = .ok (.invokevirtual 62, 3) := by decide +kernel
theorem dX7_put_75 : decode cX7_put 75 = .ok (.aload_n 0, 1) := by decide +kernel
theorem dX7_put_76 : decode cX7_put 76 = .ok (.invokevirtual 66, 3) := by decide +kernel
theorem dX7_put_79 : decode cX7_put 79 = .ok (.aload_n 0, 1) := by decide +kernel
theorem dX7_put_80 : decode cX7_put 80 = .ok (.getfield 12, 3) := by decide +kernel
theorem dX7_put_83 : decode cX7_put 83 = .ok (.getfield 58, 3) := by decide +kernel
theorem dX7_put_86 : decode cX7_put 86 = .ok (.iconst 1, 1) := by decide +kernel
theorem dX7_put_87 : decode cX7_put 87 = .ok (.isub, 1) := by decide +kernel
theorem dX7_put_88 : decode cX7_put 88 = .ok (.ireturn, 1) := by decide +kernel
theorem dX7_drop_0 : decode cX7_drop 0 = .ok (.aload_n 0, 1) := by decide +kernel
theorem dX7_drop_1 : decode cX7_drop 1 = .ok (.getfield 12, 3) := by decide +kernel
theorem dX7_drop_4 : decode cX7_drop 4 = .ok (.iload_n 1, 1) := by decide +kernel
theorem dX7_drop_5 : decode cX7_drop 5 = .ok (.invokevirtual 69, 3) := by decide +kernel
theorem dX7_drop_8 : decode cX7_drop 8 = .ok (.ifCond .ne 5, 3) := by decide +kernel
theorem dX7_drop_11 : decode cX7_drop 11 = .ok (.iconst (-1), 1) := by decide +kernel
theorem dX7_drop_12 : decode cX7_drop 12 = .ok (.ireturn, 1) := by decide +kernel
theorem dX7_drop_13 : decode cX7_drop 13 = .ok (.aload_n 0, 1) := by decide +kernel
theorem dX7_drop_14 : decode cX7_drop 14 = .ok (.getfield 12, 3) := by decide +kernel
theorem dX7_drop_17 : decode cX7_drop 17 = .ok (.iload_n 1, 1) := by decide +kernel
theorem dX7_drop_18 : decode cX7_drop 18 = .ok (.invokevirtual 72, 3) := by decide +kernel
theorem dX7_drop_21 : decode cX7_drop 21 = .ok (.aload_n 0, 1) := by decide +kernel
theorem dX7_drop_22 : decode cX7_drop 22 = .ok (.invokevirtual 66, 3) := by decide +kernel
theorem dX7_drop_25 : decode cX7_drop 25 = .ok (.aload_n 0, 1) := by decide +kernel
theorem dX7_drop_26 : decode cX7_drop 26 = .ok (.getfield 12, 3) := by decide +kernel
theorem dX7_drop_29 : decode cX7_drop 29 = .ok (.getfield 58, 3) := by decide +kernel
theorem dX7_drop_32 : decode cX7_drop 32 = .ok (.ireturn, 1) := by decide +kernel
theorem dX7_cross_0 : decode cX7_cross 0 = .ok (.aload_n 0, 1) := by decide +kernel
theorem dX7_cross_1 : decode cX7_cross 1 = .ok (.getfield 12, 3) := by decide +kernel
theorem dX7_cross_4 : decode cX7_cross 4 = .ok (.iload_n 1, 1) := by decide +kernel
theorem dX7_cross_5 : decode cX7_cross 5 = .ok (.invokevirtual 69, 3) := by decide +kernel
theorem dX7_cross_8 : decode cX7_cross 8 = .ok (.ifCond .ne 5, 3) := by decide +kernel
theorem dX7_cross_11 : decode cX7_cross 11 = .ok (.iconst (-1), 1) := by decide +kernel
theorem dX7_cross_12 : decode cX7_cross 12 = .ok (.ireturn, 1) := by decide +kernel
theorem dX7_cross_13 : decode cX7_cross 13 = .ok (.aload_n 0, 1) := by decide +kernel
theorem dX7_cross_14 : decode cX7_cross 14 = .ok (.getfield 12, 3) := by decide +kernel
theorem dX7_cross_17 : decode cX7_cross 17 = .ok (.getfield 76, 3) := by decide +kernel
theorem dX7_cross_20 : decode cX7_cross 20 = .ok (.iload_n 1, 1) := by decide +kernel
theorem dX7_cross_21 : decode cX7_cross 21 = .ok (.iaload, 1) := by decide +kernel
theorem dX7_cross_22 : decode cX7_cross 22 = .ok (.ifCond .ne 6, 3) := by decide +kernel
theorem dX7_cross_25 : decode cX7_cross 25 = .ok (.bipush (-5), 2) := by decide +kernel
theorem dX7_cross_27 : decode cX7_cross 27 = .ok (.ireturn, 1) := by decide +kernel
theorem dX7_cross_28 : decode cX7_cross 28 = .ok (.aload_n 0, 1) := by decide +kernel
theorem dX7_cross_29 : decode cX7_cross 29 = .ok (.getfield 12, 3) := by decide +kernel
theorem dX7_cross_32 : decode cX7_cross 32 = .ok (.getfield 80, 3) := by decide +kernel
theorem dX7_cross_35 : decode cX7_cross 35 = .ok (.iload_n 1, 1) := by decide +kernel
theorem dX7_cross_36 : decode cX7_cross 36 = .ok (.iaload, 1) := by decide +kernel
theorem dX7_cross_37 : decode cX7_cross 37 = .ok (.istore_n 2, 1) := by decide +kernel
theorem dX7_cross_38 : decode cX7_cross 38 = .ok (.aload_n 0, 1) := by decide +kernel
theorem dX7_cross_39 : decode cX7_cross 39 = .ok (.getfield 12, 3) := by decide +kernel
theorem dX7_cross_42 : decode cX7_cross 42 = .ok (.getfield 80, 3) := by decide +kernel
theorem dX7_cross_45 : decode cX7_cross 45 = .ok (.iload_n 1, 1) := by decide +kernel
theorem dX7_cross_46 : decode cX7_cross 46 = .ok (.aload_n 0, 1) := by decide +kernel
theorem dX7_cross_47 : decode cX7_cross 47 = .ok (.getfield 12, 3) := by decide +kernel
theorem dX7_cross_50 : decode cX7_cross 50 = .ok (.getfield 83, 3) := by decide +kernel
theorem dX7_cross_53 : decode cX7_cross 53 = .ok (.iload_n 1, 1) := by decide +kernel
theorem dX7_cross_54 : decode cX7_cross 54 = .ok (.iaload, 1) := by decide +kernel
theorem dX7_cross_55 : decode cX7_cross 55 = .ok (.iastore, 1) := by decide +kernel
theorem dX7_cross_56 : decode cX7_cross 56 = .ok (.aload_n 0, 1) := by decide +kernel
theorem dX7_cross_57 : decode cX7_cross 57 = .ok (.getfield 12, 3) := by decide +kernel
theorem dX7_cross_60 : decode cX7_cross 60 = .ok (.getfield 83, 3) := by decide +kernel
theorem dX7_cross_63 : decode cX7_cross 63 = .ok (.iload_n 1, 1) := by decide +kernel
theorem dX7_cross_64 : decode cX7_cross 64 = .ok (.iload_n 2, 1) := by decide +kernel
theorem dX7_cross_65 : decode cX7_cross 65 = .ok (.iastore, 1) := by decide +kernel
theorem dX7_cross_66 : decode cX7_cross 66 = .ok (.aload_n 0, 1) := by decide +kernel
theorem dX7_cross_67 : decode cX7_cross 67 = .ok (.invokevirtual 66, 3) := by decide +kernel
theorem dX7_cross_70 : decode cX7_cross 70 = .ok (.iload_n 1, 1) := by decide +kernel
theorem dX7_cross_71 : decode cX7_cross 71 = .ok (.ireturn, 1) := by decide +kernel
theorem dX7_told_0 : decode cX7_told 0 = .ok (.aload_n 0, 1) := by decide +kernel
theorem dX7_told_1 : decode cX7_told 1 = .ok (.getfield 12, 3) := by decide +kernel
theorem dX7_told_4 : decode cX7_told 4 = .ok (.iload_n 1, 1) := by decide +kernel
theorem dX7_told_5 : decode cX7_told 5 = .ok (.invokevirtual 69, 3) := by decide +kernel
theorem dX7_told_8 : decode cX7_told 8 = .ok (.ifCond .ne 5, 3) := by decide +kernel
theorem dX7_told_11 : decode cX7_told 11 = .ok (.iconst (-1), 1) := by decide +kernel
theorem dX7_told_12 : decode cX7_told 12 = .ok (.ireturn, 1) := by decide +kernel
theorem dX7_told_13 : decode cX7_told 13 = .ok (.iload_n 2, 1) := by decide +kernel
theorem dX7_told_14 : decode cX7_told 14 = .ok (.tableswitch 87 0 3 #[30, 40, 50, 60], 30) := by decide +kernel
theorem dX7_told_44 : decode cX7_told 44 = .ok (.aload_n 0, 1) := by decide +kernel
theorem dX7_told_45 : decode cX7_told 45 = .ok (.getfield 12, 3) := by decide +kernel
theorem dX7_told_48 : decode cX7_told 48 = .ok (.getfield 76, 3) := by decide +kernel
theorem dX7_told_51 : decode cX7_told 51 = .ok (.iload_n 1, 1) := by decide +kernel
theorem dX7_told_52 : decode cX7_told 52 = .ok (.iaload, 1) := by decide +kernel
theorem dX7_told_53 : decode cX7_told 53 = .ok (.ireturn, 1) := by decide +kernel
theorem dX7_told_54 : decode cX7_told 54 = .ok (.aload_n 0, 1) := by decide +kernel
theorem dX7_told_55 : decode cX7_told 55 = .ok (.getfield 12, 3) := by decide +kernel
theorem dX7_told_58 : decode cX7_told 58 = .ok (.getfield 86, 3) := by decide +kernel
theorem dX7_told_61 : decode cX7_told 61 = .ok (.iload_n 1, 1) := by decide +kernel
theorem dX7_told_62 : decode cX7_told 62 = .ok (.iaload, 1) := by decide +kernel
theorem dX7_told_63 : decode cX7_told 63 = .ok (.ireturn, 1) := by decide +kernel
theorem dX7_told_64 : decode cX7_told 64 = .ok (.aload_n 0, 1) := by decide +kernel
theorem dX7_told_65 : decode cX7_told 65 = .ok (.getfield 12, 3) := by decide +kernel
theorem dX7_told_68 : decode cX7_told 68 = .ok (.getfield 80, 3) := by decide +kernel
theorem dX7_told_71 : decode cX7_told 71 = .ok (.iload_n 1, 1) := by decide +kernel
theorem dX7_told_72 : decode cX7_told 72 = .ok (.iaload, 1) := by decide +kernel
theorem dX7_told_73 : decode cX7_told 73 = .ok (.ireturn, 1) := by decide +kernel
theorem dX7_told_74 : decode cX7_told 74 = .ok (.aload_n 0, 1) := by decide +kernel
theorem dX7_told_75 : decode cX7_told 75 = .ok (.getfield 12, 3) := by decide +kernel
theorem dX7_told_78 : decode cX7_told 78 = .ok (.getfield 76, 3) := by decide +kernel
theorem dX7_told_81 : decode cX7_told 81 = .ok (.iload_n 1, 1) := by decide +kernel
theorem dX7_told_82 : decode cX7_told 82 = .ok (.iaload, 1) := by decide +kernel
theorem dX7_told_83 : decode cX7_told 83 = .ok (.ifCond .ne 8, 3) := by decide +kernel
theorem dX7_told_86 : decode cX7_told 86 = .ok (.bipush (-6), 2) := by decide +kernel
theorem dX7_told_88 : decode cX7_told 88 = .ok (.goto 12, 3) := by decide +kernel
theorem dX7_told_91 : decode cX7_told 91 = .ok (.aload_n 0, 1) := by decide +kernel
theorem dX7_told_92 : decode cX7_told 92 = .ok (.getfield 12, 3) := by decide +kernel
theorem dX7_told_95 : decode cX7_told 95 = .ok (.getfield 83, 3) := by decide +kernel
theorem dX7_told_98 : decode cX7_told 98 = .ok (.iload_n 1, 1) := by decide +kernel
theorem dX7_told_99 : decode cX7_told 99 = .ok (.iaload, 1) := by decide +kernel
theorem dX7_told_100 : decode cX7_told 100 = .ok (.ireturn, 1) := by decide +kernel
theorem dX7_told_101 : decode cX7_told 101 = .ok (.bipush (-2), 2) := by decide +kernel
theorem dX7_told_103 : decode cX7_told 103 = .ok (.ireturn, 1) := by decide +kernel
theorem dX7_free_0 : decode cX7_free 0 = .ok (.iload_n 1, 1) := by decide +kernel
theorem dX7_free_1 : decode cX7_free 1 = .ok (.iconst 1, 1) := by decide +kernel
theorem dX7_free_2 : decode cX7_free 2 = .ok (.if_icmp .lt 18, 3) := by decide +kernel
theorem dX7_free_5 : decode cX7_free 5 = .ok (.iload_n 1, 1) := by decide +kernel
theorem dX7_free_6 : decode cX7_free 6 = .ok (.bipush 6, 2) := by decide +kernel
theorem dX7_free_8 : decode cX7_free 8 = .ok (.if_icmp .gt 12, 3) := by decide +kernel
theorem dX7_free_11 : decode cX7_free 11 = .ok (.iload_n 2, 1) := by decide +kernel
theorem dX7_free_12 : decode cX7_free 12 = .ok (.ifCond .lt 8, 3) := by decide +kernel
theorem dX7_free_15 : decode cX7_free 15 = .ok (.iload_n 2, 1) := by decide +kernel
theorem dX7_free_16 : decode cX7_free 16 = .ok (.iconst 1, 1) := by decide +kernel
theorem dX7_free_17 : decode cX7_free 17 = .ok (.if_icmp .le 6, 3) := by decide +kernel
theorem dX7_free_20 : decode cX7_free 20 = .ok (.bipush (-2), 2) := by decide +kernel
theorem dX7_free_22 : decode cX7_free 22 = .ok (.ireturn, 1) := by decide +kernel
theorem dX7_free_23 : decode cX7_free 23 = .ok (.aload_n 0, 1) := by decide +kernel
theorem dX7_free_24 : decode cX7_free 24 = .ok (.getfield 12, 3) := by decide +kernel
theorem dX7_free_27 : decode cX7_free 27 = .ok (.getfield 89, 3) := by decide +kernel
theorem dX7_free_30 : decode cX7_free 30 = .ok (.iconst 1, 1) := by decide +kernel
theorem dX7_free_31 : decode cX7_free 31 = .ok (.iload_n 1, 1) := by decide +kernel
theorem dX7_free_32 : decode cX7_free 32 = .ok (.ishl, 1) := by decide +kernel
theorem dX7_free_33 : decode cX7_free 33 = .ok (.iconst (-1), 1) := by decide +kernel
theorem dX7_free_34 : decode cX7_free 34 = .ok (.ixor, 1) := by decide +kernel
theorem dX7_free_35 : decode cX7_free 35 = .ok (.iand, 1) := by decide +kernel
theorem dX7_free_36 : decode cX7_free 36 = .ok (.istore_n 3, 1) := by decide +kernel
theorem dX7_free_37 : decode cX7_free 37 = .ok (.iload_n 3, 1) := by decide +kernel
theorem dX7_free_38 : decode cX7_free 38 = .ok (.iload_n 2, 1) := by decide +kernel
theorem dX7_free_39 : decode cX7_free 39 = .ok (.iload_n 1, 1) := by decide +kernel
theorem dX7_free_40 : decode cX7_free 40 = .ok (.ishl, 1) := by decide +kernel
theorem dX7_free_41 : decode cX7_free 41 = .ok (.ior, 1) := by decide +kernel
theorem dX7_free_42 : decode cX7_free 42 = .ok (.istore 4, 2) := by decide +kernel
theorem dX7_free_44 : decode cX7_free 44 = .ok (.iload 4, 2) := by decide +kernel
theorem dX7_free_46 : decode cX7_free 46 = .ok (.aload_n 0, 1) := by decide +kernel
theorem dX7_free_47 : decode cX7_free 47 = .ok (.getfield 12, 3) := by decide +kernel
theorem dX7_free_50 : decode cX7_free 50 = .ok (.getfield 89, 3) := by decide +kernel
theorem dX7_free_53 : decode cX7_free 53 = .ok (.if_icmp .eq 16, 3) := by decide +kernel
theorem dX7_free_56 : decode cX7_free 56 = .ok (.aload_n 0, 1) := by decide +kernel
theorem dX7_free_57 : decode cX7_free 57 = .ok (.getfield 12, 3) := by decide +kernel
theorem dX7_free_60 : decode cX7_free 60 = .ok (.iload 4, 2) := by decide +kernel
theorem dX7_free_62 : decode cX7_free 62 = .ok (.putfield 89, 3) := by decide +kernel
theorem dX7_free_65 : decode cX7_free 65 = .ok (.aload_n 0, 1) := by decide +kernel
theorem dX7_free_66 : decode cX7_free 66 = .ok (.invokevirtual 66, 3) := by decide +kernel
theorem dX7_free_69 : decode cX7_free 69 = .ok (.aload_n 0, 1) := by decide +kernel
theorem dX7_free_70 : decode cX7_free 70 = .ok (.getfield 12, 3) := by decide +kernel
theorem dX7_free_73 : decode cX7_free 73 = .ok (.getfield 89, 3) := by decide +kernel
theorem dX7_free_76 : decode cX7_free 76 = .ok (.ireturn, 1) := by decide +kernel
theorem dX7_set_0 : decode cX7_set 0 = .ok (.iload_n 1, 1) := by decide +kernel
theorem dX7_set_1 : decode cX7_set 1 = .ok (.invokestatic 54, 3) := by decide +kernel
theorem dX7_set_4 : decode cX7_set 4 = .ok (.ifCond .ne 5, 3) := by decide +kernel
theorem dX7_set_7 : decode cX7_set 7 = .ok (.iconst (-1), 1) := by decide +kernel
theorem dX7_set_8 : decode cX7_set 8 = .ok (.ireturn, 1) := by decide +kernel
theorem dX7_set_9 : decode cX7_set 9 = .ok (.aload_n 0, 1) := by decide +kernel
theorem dX7_set_10 : decode cX7_set 10 = .ok (.getfield 12, 3) := by decide +kernel
theorem dX7_set_13 : decode cX7_set 13 = .ok (.getfield 92, 3) := by decide +kernel
theorem dX7_set_16 : decode cX7_set 16 = .ok (.iload_n 1, 1) := by decide +kernel
theorem dX7_set_17 : decode cX7_set 17 = .ok (.iload_n 2, 1) := by decide +kernel
theorem dX7_set_18 : decode cX7_set 18 = .ok (.iastore, 1) := by decide +kernel
theorem dX7_set_19 : decode cX7_set 19 = .ok (.iconst 0, 1) := by decide +kernel
theorem dX7_set_20 : decode cX7_set 20 = .ok (.istore_n 3, 1) := by decide +kernel
theorem dX7_set_21 : decode cX7_set 21 = .ok (.iconst 0, 1) := by decide +kernel
theorem dX7_set_22 : decode cX7_set 22 = .ok (.istore 4, 2) := by decide +kernel
theorem dX7_set_24 : decode cX7_set 24 = .ok (.iload 4, 2) := by decide +kernel
theorem dX7_set_26 : decode cX7_set 26 = .ok (.bipush 7, 2) := by decide +kernel
theorem dX7_set_28 : decode cX7_set 28 = .ok (.if_icmp .ge 25, 3) := by decide +kernel
theorem dX7_set_31 : decode cX7_set 31 = .ok (.aload_n 0, 1) := by decide +kernel
theorem dX7_set_32 : decode cX7_set 32 = .ok (.getfield 12, 3) := by decide +kernel
theorem dX7_set_35 : decode cX7_set 35 = .ok (.getfield 92, 3) := by decide +kernel
theorem dX7_set_38 : decode cX7_set 38 = .ok (.iload 4, 2) := by decide +kernel
theorem dX7_set_40 : decode cX7_set 40 = .ok (.iaload, 1) := by decide +kernel
theorem dX7_set_41 : decode cX7_set 41 = .ok (.ifCond .eq 6, 3) := by decide +kernel
theorem dX7_set_44 : decode cX7_set 44 = .ok (.iinc 3 1, 3) := by decide +kernel
theorem dX7_set_47 : decode cX7_set 47 = .ok (.iinc 4 1, 3) := by decide +kernel
theorem dX7_set_50 : decode cX7_set 50 = .ok (.goto (-26), 3) := by decide +kernel
theorem dX7_set_53 : decode cX7_set 53 = .ok (.iload_n 3, 1) := by decide +kernel
theorem dX7_set_54 : decode cX7_set 54 = .ok (.ireturn, 1) := by decide +kernel
theorem dX7_value_0 : decode cX7_value 0 = .ok (.iload_n 1, 1) := by decide +kernel
theorem dX7_value_1 : decode cX7_value 1 = .ok (.invokestatic 54, 3) := by decide +kernel
theorem dX7_value_4 : decode cX7_value 4 = .ok (.ifCond .eq 16, 3) := by decide +kernel
theorem dX7_value_7 : decode cX7_value 7 = .ok (.aload_n 0, 1) := by decide +kernel
theorem dX7_value_8 : decode cX7_value 8 = .ok (.getfield 12, 3) := by decide +kernel
theorem dX7_value_11 : decode cX7_value 11 = .ok (.getfield 92, 3) := by decide +kernel
theorem dX7_value_14 : decode cX7_value 14 = .ok (.iload_n 1, 1) := by decide +kernel
theorem dX7_value_15 : decode cX7_value 15 = .ok (.iaload, 1) := by decide +kernel
theorem dX7_value_16 : decode cX7_value 16 = .ok (.i2l, 1) := by decide +kernel
theorem dX7_value_17 : decode cX7_value 17 = .ok (.goto 6, 3) := by decide +kernel
theorem dX7_value_20 : decode cX7_value 20 = .ok (.ldc2_w 95, 3) := by decide +kernel
theorem dX7_value_23 : decode cX7_value 23 = .ok (.lreturn, 1) := by decide +kernel
theorem dX7_sight_0 : decode cX7_sight 0 = .ok (.aload_n 0, 1) := by decide +kernel
theorem dX7_sight_1 : decode cX7_sight 1 = .ok (.getfield 23, 3) := by decide +kernel
theorem dX7_sight_4 : decode cX7_sight 4 = .ok (.aload_n 0, 1) := by decide +kernel
theorem dX7_sight_5 : decode cX7_sight 5 = .ok (.getfield 12, 3) := by decide +kernel
theorem dX7_sight_8 : decode cX7_sight 8 = .ok (.iconst 0, 1) := by decide +kernel
theorem dX7_sight_9 : decode cX7_sight 9 = .ok (.invokevirtual 97, 3) := by decide +kernel
theorem dX7_sight_12 : decode cX7_sight 12 = .ok (.aload_n 0, 1) := by decide +kernel
theorem dX7_sight_13 : decode cX7_sight 13 = .ok (.getfield 23, 3) := by decide +kernel
theorem dX7_sight_16 : decode cX7_sight 16 = .ok (.iload_n 1, 1) := by decide +kernel
theorem dX7_sight_17 : decode cX7_sight 17 = .ok (.invokevirtual 101, 3) := by decide +kernel
theorem dX7_sight_20 : decode cX7_sight 20 = .ok (.ifCond .eq 15, 3) := by decide +kernel
theorem dX7_sight_23 : decode cX7_sight 23 = .ok (.aload_n 0, 1) := by decide +kernel
theorem dX7_sight_24 : decode cX7_sight 24 = .ok (.getfield 23, 3) := by decide +kernel
theorem dX7_sight_27 : decode cX7_sight 27 = .ok (.getfield 102, 3) := by decide +kernel
theorem dX7_sight_30 : decode cX7_sight 30 = .ok (.iload_n 1, 1) := by decide +kernel
theorem dX7_sight_31 : decode cX7_sight 31 = .ok (.iaload, 1) := by decide +kernel
theorem dX7_sight_32 : decode cX7_sight 32 = .ok (.goto 5, 3) := by decide +kernel
theorem dX7_sight_35 : decode cX7_sight 35 = .ok (.bipush (-6), 2) := by decide +kernel
theorem dX7_sight_37 : decode cX7_sight 37 = .ok (.ireturn, 1) := by decide +kernel
theorem dX7_plan_0 : decode cX7_plan 0 = .ok (.iload_n 1, 1) := by decide +kernel
theorem dX7_plan_1 : decode cX7_plan 1 = .ok (.iload_n 2, 1) := by decide +kernel
theorem dX7_plan_2 : decode cX7_plan 2 = .ok (.invokestatic 105, 3) := by decide +kernel
theorem dX7_plan_5 : decode cX7_plan 5 = .ok (.ifCond .eq 12, 3) := by decide +kernel
theorem dX7_plan_8 : decode cX7_plan 8 = .ok (.iload_n 3, 1) := by decide +kernel
theorem dX7_plan_9 : decode cX7_plan 9 = .ok (.ifCond .lt 8, 3) := by decide +kernel
theorem dX7_plan_12 : decode cX7_plan 12 = .ok (.iload_n 3, 1) := by decide +kernel
theorem dX7_plan_13 : decode cX7_plan 13 = .ok (.iconst 2, 1) := by decide +kernel
theorem dX7_plan_14 : decode cX7_plan 14 = .ok (.if_icmp .le 6, 3) := by decide +kernel
theorem dX7_plan_17 : decode cX7_plan 17 = .ok (.bipush (-2), 2) := by decide +kernel
theorem dX7_plan_19 : decode cX7_plan 19 = .ok (.ireturn, 1) := by decide +kernel
theorem dX7_plan_20 : decode cX7_plan 20 = .ok (.aload_n 0, 1) := by decide +kernel
theorem dX7_plan_21 : decode cX7_plan 21 = .ok (.getfield 43, 3) := by decide +kernel
theorem dX7_plan_24 : decode cX7_plan 24 = .ok (.iload_n 1, 1) := by decide +kernel
theorem dX7_plan_25 : decode cX7_plan 25 = .ok (.iload_n 2, 1) := by decide +kernel
theorem dX7_plan_26 : decode cX7_plan 26 = .ok (.invokevirtual 109, 3) := by decide +kernel
theorem dX7_plan_29 : decode cX7_plan 29 = .ok (.astore 4, 2) := by decide +kernel
theorem dX7_plan_31 : decode cX7_plan 31 = .ok (.iload_n 3, 1) := by decide +kernel
theorem dX7_plan_32 : decode cX7_plan 32 = .ok (.ifCond .ne 9, 3) := by decide +kernel
theorem dX7_plan_35 : decode cX7_plan 35 = .ok (.aload 4, 2) := by decide +kernel
theorem dX7_plan_37 : decode cX7_plan 37 = .ok (.getfield 113, 3) := by decide +kernel
theorem dX7_plan_40 : decode cX7_plan 40 = .ok (.ireturn, 1) := by decide +kernel
theorem dX7_plan_41 : decode cX7_plan 41 = .ok (.iload_n 3, 1) := by decide +kernel
theorem dX7_plan_42 : decode cX7_plan 42 = .ok (.iconst 1, 1) := by decide +kernel
theorem dX7_plan_43 : decode cX7_plan 43 = .ok (.if_icmp .ne 11, 3) := by decide +kernel
theorem dX7_plan_46 : decode cX7_plan 46 = .ok (.aload 4, 2) := by decide +kernel
theorem dX7_plan_48 : decode cX7_plan 48 = .ok (.getfield 118, 3) := by decide +kernel
theorem dX7_plan_51 : decode cX7_plan 51 = .ok (.goto 8, 3) := by decide +kernel
theorem dX7_plan_54 : decode cX7_plan 54 = .ok (.aload 4, 2) := by decide +kernel
theorem dX7_plan_56 : decode cX7_plan 56 = .ok (.getfield 121, 3) := by decide +kernel
theorem dX7_plan_59 : decode cX7_plan 59 = .ok (.ireturn, 1) := by decide +kernel
theorem dX7_place_0 : decode cX7_place 0 = .ok (.iload_n 3, 1) := by decide +kernel
theorem dX7_place_1 : decode cX7_place 1 = .ok (.invokestatic 54, 3) := by decide +kernel
theorem dX7_place_4 : decode cX7_place 4 = .ok (.ifCond .eq 17, 3) := by decide +kernel
theorem dX7_place_7 : decode cX7_place 7 = .ok (.aload_n 0, 1) := by decide +kernel
theorem dX7_place_8 : decode cX7_place 8 = .ok (.getfield 12, 3) := by decide +kernel
theorem dX7_place_11 : decode cX7_place 11 = .ok (.invokevirtual 124, 3) := by decide +kernel
theorem dX7_place_14 : decode cX7_place 14 = .ok (.iload_n 3, 1) := by decide +kernel
theorem dX7_place_15 : decode cX7_place 15 = .ok (.ishr, 1) := by decide +kernel
theorem dX7_place_16 : decode cX7_place 16 = .ok (.iconst 1, 1) := by decide +kernel
theorem dX7_place_17 : decode cX7_place 17 = .ok (.iand, 1) := by decide +kernel
theorem dX7_place_18 : decode cX7_place 18 = .ok (.ifCond .ne 5, 3) := by decide +kernel
theorem dX7_place_21 : decode cX7_place 21 = .ok (.iconst (-1), 1) := by decide +kernel
theorem dX7_place_22 : decode cX7_place 22 = .ok (.ireturn, 1) := by decide +kernel
theorem dX7_place_23 : decode cX7_place 23 = .ok (.iload_n 1, 1) := by decide +kernel
theorem dX7_place_24 : decode cX7_place 24 = .ok (.iload_n 2, 1) := by decide +kernel
theorem dX7_place_25 : decode cX7_place 25 = .ok (.invokestatic 105, 3) := by decide +kernel
theorem dX7_place_28 : decode cX7_place 28 = .ok (.ifCond .eq 14, 3) := by decide +kernel
theorem dX7_place_31 : decode cX7_place 31 = .ok (.iload 4, 2) := by decide +kernel
theorem dX7_place_33 : decode cX7_place 33 = .ok (.ifCond .lt 9, 3) := by decide +kernel
theorem dX7_place_36 : decode cX7_place 36 = .ok (.iload 4, 2) := by decide +kernel
theorem dX7_place_38 : decode cX7_place 38 = .ok (.iconst 1, 1) := by decide +kernel
theorem dX7_place_39 : decode cX7_place 39 = .ok (.if_icmp .le 6, 3) := by decide +kernel
theorem dX7_place_42 : decode cX7_place 42 = .ok (.bipush (-2), 2) := by decide +kernel
theorem dX7_place_44 : decode cX7_place 44 = .ok (.ireturn, 1) := by decide +kernel
theorem dX7_place_45 : decode cX7_place 45 = .ok (.aload_n 0, 1) := by decide +kernel
theorem dX7_place_46 : decode cX7_place 46 = .ok (.getfield 43, 3) := by decide +kernel
theorem dX7_place_49 : decode cX7_place 49 = .ok (.iload_n 1, 1) := by decide +kernel
theorem dX7_place_50 : decode cX7_place 50 = .ok (.iload_n 2, 1) := by decide +kernel
theorem dX7_place_51 : decode cX7_place 51 = .ok (.invokevirtual 109, 3) := by decide +kernel
theorem dX7_place_54 : decode cX7_place 54 = .ok (.astore 5, 2) := by decide +kernel
theorem dX7_place_56 : decode cX7_place 56 = .ok (.iload 4, 2) := by decide +kernel
theorem dX7_place_58 : decode cX7_place 58 = .ok (.ifCond .ne 13, 3) := by decide +kernel
theorem dX7_place_61 : decode cX7_place 61 = .ok (.aload 5, 2) := by decide +kernel
theorem dX7_place_63 : decode cX7_place 63 = .ok (.getfield 128, 3) := by decide +kernel
theorem dX7_place_66 : decode cX7_place 66 = .ok (.iload_n 3, 1) := by decide +kernel
theorem dX7_place_67 : decode cX7_place 67 = .ok (.iaload, 1) := by decide +kernel
theorem dX7_place_68 : decode cX7_place 68 = .ok (.goto 10, 3) := by decide +kernel
theorem dX7_place_71 : decode cX7_place 71 = .ok (.aload 5, 2) := by decide +kernel
theorem dX7_place_73 : decode cX7_place 73 = .ok (.getfield 131, 3) := by decide +kernel
theorem dX7_place_76 : decode cX7_place 76 = .ok (.iload_n 3, 1) := by decide +kernel
theorem dX7_place_77 : decode cX7_place 77 = .ok (.iaload, 1) := by decide +kernel
theorem dX7_place_78 : decode cX7_place 78 = .ok (.ireturn, 1) := by decide +kernel
theorem dX7_step_0 : decode cX7_step 0 = .ok (.iload_n 1, 1) := by decide +kernel
theorem dX7_step_1 : decode cX7_step 1 = .ok (.iload_n 2, 1) := by decide +kernel
theorem dX7_step_2 : decode cX7_step 2 = .ok (.invokestatic 105, 3) := by decide +kernel
theorem dX7_step_5 : decode cX7_step 5 = .ok (.ifCond .eq 14, 3) := by decide +kernel
theorem dX7_step_8 : decode cX7_step 8 = .ok (.iload 4, 2) := by decide +kernel
theorem dX7_step_10 : decode cX7_step 10 = .ok (.ifCond .lt 9, 3) := by decide +kernel
theorem dX7_step_13 : decode cX7_step 13 = .ok (.iload 4, 2) := by decide +kernel
theorem dX7_step_15 : decode cX7_step 15 = .ok (.iconst 2, 1) := by decide +kernel
theorem dX7_step_16 : decode cX7_step 16 = .ok (.if_icmp .le 6, 3) := by decide +kernel
theorem dX7_step_19 : decode cX7_step 19 = .ok (.bipush (-2), 2) := by decide +kernel
theorem dX7_step_21 : decode cX7_step 21 = .ok (.ireturn, 1) := by decide +kernel
theorem dX7_step_22 : decode cX7_step 22 = .ok (.aload_n 0, 1) := by decide +kernel
theorem dX7_step_23 : decode cX7_step 23 = .ok (.getfield 43, 3) := by decide +kernel
theorem dX7_step_26 : decode cX7_step 26 = .ok (.iload_n 1, 1) := by decide +kernel
theorem dX7_step_27 : decode cX7_step 27 = .ok (.iload_n 2, 1) := by decide +kernel
theorem dX7_step_28 : decode cX7_step 28 = .ok (.invokevirtual 109, 3) := by decide +kernel
theorem dX7_step_31 : decode cX7_step 31 = .ok (.astore 5, 2) := by decide +kernel
theorem dX7_step_33 : decode cX7_step 33 = .ok (.aload_n 0, 1) := by decide +kernel
theorem dX7_step_34 : decode cX7_step 34 = .ok (.getfield 23, 3) := by decide +kernel
theorem dX7_step_37 : decode cX7_step 37 = .ok (.aload_n 0, 1) := by decide +kernel
theorem dX7_step_38 : decode cX7_step 38 = .ok (.getfield 12, 3) := by decide +kernel
theorem dX7_step_41 : decode cX7_step 41 = .ok (.aload 5, 2) := by decide +kernel
theorem dX7_step_43 : decode cX7_step 43 = .ok (.getfield 121, 3) := by decide +kernel
theorem dX7_step_46 : decode cX7_step 46 = .ok (.invokevirtual 97, 3) := by decide +kernel
theorem dX7_step_49 : decode cX7_step 49 = .ok (.aload_n 0, 1) := by decide +kernel
theorem dX7_step_50 : decode cX7_step 50 = .ok (.getfield 23, 3) := by decide +kernel
theorem dX7_step_53 : decode cX7_step 53 = .ok (.iload_n 3, 1) := by decide +kernel
theorem dX7_step_54 : decode cX7_step 54 = .ok (.invokevirtual 101, 3) := by decide +kernel
theorem dX7_step_57 : decode cX7_step 57 = .ok (.ifCond .ne 6, 3) := by decide +kernel
theorem dX7_step_60 : decode cX7_step 60 = .ok (.bipush (-6), 2) := by decide +kernel
theorem dX7_step_62 : decode cX7_step 62 = .ok (.ireturn, 1) := by decide +kernel
theorem dX7_step_63 : decode cX7_step 63 = .ok (.aload_n 0, 1) := by decide +kernel
theorem dX7_step_64 : decode cX7_step 64 = .ok (.getfield 23, 3) := by decide +kernel
theorem dX7_step_67 : decode cX7_step 67 = .ok (.getfield 102, 3) := by decide +kernel
theorem dX7_step_70 : decode cX7_step 70 = .ok (.iload_n 3, 1) := by decide +kernel
theorem dX7_step_71 : decode cX7_step 71 = .ok (.iaload, 1) := by decide +kernel
theorem dX7_step_72 : decode cX7_step 72 = .ok (.istore 6, 2) := by decide +kernel
theorem dX7_step_74 : decode cX7_step 74 = .ok (.iload 4, 2) := by decide +kernel
theorem dX7_step_76 : decode cX7_step 76 = .ok (.ifCond .ne 6, 3) := by decide +kernel
theorem dX7_step_79 : decode cX7_step 79 = .ok (.iload 6, 2) := by decide +kernel
theorem dX7_step_81 : decode cX7_step 81 = .ok (.ireturn, 1) := by decide +kernel
theorem dX7_step_82 : decode cX7_step 82 = .ok (.aload_n 0, 1) := by decide +kernel
theorem dX7_step_83 : decode cX7_step 83 = .ok (.getfield 23, 3) := by decide +kernel
theorem dX7_step_86 : decode cX7_step 86 = .ok (.iload_n 3, 1) := by decide +kernel
theorem dX7_step_87 : decode cX7_step 87 = .ok (.aload 5, 2) := by decide +kernel
theorem dX7_step_89 : decode cX7_step 89 = .ok (.getfield 128, 3) := by decide +kernel
theorem dX7_step_92 : decode cX7_step 92 = .ok (.invokevirtual 134, 3) := by decide +kernel
theorem dX7_step_95 : decode cX7_step 95 = .ok (.istore 7, 2) := by decide +kernel
theorem dX7_step_97 : decode cX7_step 97 = .ok (.iload 7, 2) := by decide +kernel
theorem dX7_step_99 : decode cX7_step 99 = .ok (.ifCond .lt 29, 3) := by decide +kernel
theorem dX7_step_102 : decode cX7_step 102 = .ok (.aload_n 0, 1) := by decide +kernel
theorem dX7_step_103 : decode cX7_step 103 = .ok (.getfield 12, 3) := by decide +kernel
theorem dX7_step_106 : decode cX7_step 106 = .ok (.aload 5, 2) := by decide +kernel
theorem dX7_step_108 : decode cX7_step 108 = .ok (.getfield 131, 3) := by decide +kernel
theorem dX7_step_111 : decode cX7_step 111 = .ok (.iload 7, 2) := by decide +kernel
theorem dX7_step_113 : decode cX7_step 113 = .ok (.iaload, 1) := by decide +kernel
theorem dX7_step_114 : decode cX7_step 114 = .ok (.aload 5, 2) := by decide +kernel
theorem dX7_step_116 : decode cX7_step 116 = .ok (.getfield 131, 3) := by decide +kernel
theorem dX7_step_119 : decode cX7_step 119 = .ok (.iload 6, 2) := by decide +kernel
theorem dX7_step_121 : decode cX7_step 121 = .ok (.iaload, 1) := by decide +kernel
theorem dX7_step_122 : decode cX7_step 122 = .ok (.invokevirtual 138, 3) := by decide +kernel
theorem dX7_step_125 : decode cX7_step 125 = .ok (.ifCond .eq 7, 3) := by decide +kernel
theorem dX7_step_128 : decode cX7_step 128 = .ok (.iconst 1, 1) := by decide +kernel
theorem dX7_step_129 : decode cX7_step 129 = .ok (.goto 4, 3) := by decide +kernel
theorem dX7_step_132 : decode cX7_step 132 = .ok (.iconst 0, 1) := by decide +kernel
theorem dX7_step_133 : decode cX7_step 133 = .ok (.istore 8, 2) := by decide +kernel
theorem dX7_step_135 : decode cX7_step 135 = .ok (.iload 4, 2) := by decide +kernel
theorem dX7_step_137 : decode cX7_step 137 = .ok (.iconst 1, 1) := by decide +kernel
theorem dX7_step_138 : decode cX7_step 138 = .ok (.if_icmp .ne 14, 3) := by decide +kernel
theorem dX7_step_141 : decode cX7_step 141 = .ok (.iload 8, 2) := by decide +kernel
theorem dX7_step_143 : decode cX7_step 143 = .ok (.ifCond .eq 7, 3) := by decide +kernel
theorem dX7_step_146 : decode cX7_step 146 = .ok (.iconst 1, 1) := by decide +kernel
theorem dX7_step_147 : decode cX7_step 147 = .ok (.goto 4, 3) := by decide +kernel
theorem dX7_step_150 : decode cX7_step 150 = .ok (.iconst 0, 1) := by decide +kernel
theorem dX7_step_151 : decode cX7_step 151 = .ok (.ireturn, 1) := by decide +kernel
theorem dX7_step_152 : decode cX7_step 152 = .ok (.iload 8, 2) := by decide +kernel
theorem dX7_step_154 : decode cX7_step 154 = .ok (.ifCond .eq 7, 3) := by decide +kernel
theorem dX7_step_157 : decode cX7_step 157 = .ok (.iconst 0, 1) := by decide +kernel
theorem dX7_step_158 : decode cX7_step 158 = .ok (.goto 20, 3) := by decide +kernel
theorem dX7_step_161 : decode cX7_step 161 = .ok (.aload 5, 2) := by decide +kernel
theorem dX7_step_163 : decode cX7_step 163 = .ok (.getfield 131, 3) := by decide +kernel
theorem dX7_step_166 : decode cX7_step 166 = .ok (.iload 6, 2) := by decide +kernel
theorem dX7_step_168 : decode cX7_step 168 = .ok (.iaload, 1) := by decide +kernel
theorem dX7_step_169 : decode cX7_step 169 = .ok (.aload 5, 2) := by decide +kernel
theorem dX7_step_171 : decode cX7_step 171 = .ok (.getfield 131, 3) := by decide +kernel
theorem dX7_step_174 : decode cX7_step 174 = .ok (.iload 7, 2) := by decide +kernel
theorem dX7_step_176 : decode cX7_step 176 = .ok (.iaload, 1) := by decide +kernel
theorem dX7_step_177 : decode cX7_step 177 = .ok (.isub, 1) := by decide +kernel
theorem dX7_step_178 : decode cX7_step 178 = .ok (.ireturn, 1) := by decide +kernel
theorem dX7_run_0 : decode cX7_run 0 = .ok (.iload_n 1, 1) := by decide +kernel
theorem dX7_run_1 : decode cX7_run 1 = .ok (.iload_n 2, 1) := by decide +kernel
theorem dX7_run_2 : decode cX7_run 2 = .ok (.invokestatic 105, 3) := by decide +kernel
theorem dX7_run_5 : decode cX7_run 5 = .ok (.ifCond .ne 6, 3) := by decide +kernel
theorem dX7_run_8 : decode cX7_run 8 = .ok (.bipush (-2), 2) := by decide +kernel
theorem dX7_run_10 : decode cX7_run 10 = .ok (.ireturn, 1) := by decide +kernel
theorem dX7_run_11 : decode cX7_run 11 = .ok (.aload_n 0, 1) := by decide +kernel
theorem dX7_run_12 : decode cX7_run 12 = .ok (.getfield 12, 3) := by decide +kernel
theorem dX7_run_15 : decode cX7_run 15 = .ok (.invokevirtual 141, 3) := by decide +kernel
theorem dX7_run_18 : decode cX7_run 18 = .ok (.aload_n 0, 1) := by decide +kernel
theorem dX7_run_19 : decode cX7_run 19 = .ok (.getfield 43, 3) := by decide +kernel
theorem dX7_run_22 : decode cX7_run 22 = .ok (.iload_n 1, 1) := by decide +kernel
theorem dX7_run_23 : decode cX7_run 23 = .ok (.iload_n 2, 1) := by decide +kernel
theorem dX7_run_24 : decode cX7_run 24 = .ok (.invokevirtual 109, 3) := by decide +kernel
theorem dX7_run_27 : decode cX7_run 27 = .ok (.getfield 113, 3) := by decide +kernel
theorem dX7_run_30 : decode cX7_run 30 = .ok (.ireturn, 1) := by decide +kernel
theorem dX7_weight_0 : decode cX7_weight 0 = .ok (.iload_n 1, 1) := by decide +kernel
theorem dX7_weight_1 : decode cX7_weight 1 = .ok (.invokestatic 54, 3) := by decide +kernel
theorem dX7_weight_4 : decode cX7_weight 4 = .ok (.ifCond .eq 10, 3) := by decide +kernel
theorem dX7_weight_7 : decode cX7_weight 7 = .ok (.iload_n 2, 1) := by decide +kernel
theorem dX7_weight_8 : decode cX7_weight 8 = .ok (.invokestatic 54, 3) := by decide +kernel
theorem dX7_weight_11 : decode cX7_weight 11 = .ok (.ifCond .ne 5, 3) := by decide +kernel
theorem dX7_weight_14 : decode cX7_weight 14 = .ok (.iconst (-1), 1) := by decide +kernel
theorem dX7_weight_15 : decode cX7_weight 15 = .ok (.ireturn, 1) := by decide +kernel
theorem dX7_weight_16 : decode cX7_weight 16 = .ok (.aload_n 0, 1) := by decide +kernel
theorem dX7_weight_17 : decode cX7_weight 17 = .ok (.invokevirtual 144, 3) := by decide +kernel
theorem dX7_weight_20 : decode cX7_weight 20 = .ok (.iload_n 1, 1) := by decide +kernel
theorem dX7_weight_21 : decode cX7_weight 21 = .ok (.bipush 7, 2) := by decide +kernel
theorem dX7_weight_23 : decode cX7_weight 23 = .ok (.imul, 1) := by decide +kernel
theorem dX7_weight_24 : decode cX7_weight 24 = .ok (.iload_n 2, 1) := by decide +kernel
theorem dX7_weight_25 : decode cX7_weight 25 = .ok (.iadd, 1) := by decide +kernel
theorem dX7_weight_26 : decode cX7_weight 26 = .ok (.iaload, 1) := by decide +kernel
theorem dX7_weight_27 : decode cX7_weight 27 = .ok (.ireturn, 1) := by decide +kernel
theorem dX7_taken_0 : decode cX7_taken 0 = .ok (.iload_n 1, 1) := by decide +kernel
theorem dX7_taken_1 : decode cX7_taken 1 = .ok (.invokestatic 54, 3) := by decide +kernel
theorem dX7_taken_4 : decode cX7_taken 4 = .ok (.ifCond .eq 10, 3) := by decide +kernel
theorem dX7_taken_7 : decode cX7_taken 7 = .ok (.iload_n 2, 1) := by decide +kernel
theorem dX7_taken_8 : decode cX7_taken 8 = .ok (.invokestatic 54, 3) := by decide +kernel
theorem dX7_taken_11 : decode cX7_taken 11 = .ok (.ifCond .ne 5, 3) := by decide +kernel
theorem dX7_taken_14 : decode cX7_taken 14 = .ok (.iconst (-1), 1) := by decide +kernel
theorem dX7_taken_15 : decode cX7_taken 15 = .ok (.ireturn, 1) := by decide +kernel
theorem dX7_taken_16 : decode cX7_taken 16 = .ok (.aload_n 0, 1) := by decide +kernel
theorem dX7_taken_17 : decode cX7_taken 17 = .ok (.getfield 50, 3) := by decide +kernel
theorem dX7_taken_20 : decode cX7_taken 20 = .ok (.aload_n 0, 1) := by decide +kernel
theorem dX7_taken_21 : decode cX7_taken 21 = .ok (.invokevirtual 144, 3) := by decide +kernel
theorem dX7_taken_24 : decode cX7_taken 24 = .ok (.invokevirtual 148, 3) := by decide +kernel
theorem dX7_taken_27 : decode cX7_taken 27 = .ok (.aload_n 0, 1) := by decide +kernel
theorem dX7_taken_28 : decode cX7_taken 28 = .ok (.getfield 50, 3) := by decide +kernel
theorem dX7_taken_31 : decode cX7_taken 31 = .ok (.iload_n 1, 1) := by decide +kernel
theorem dX7_taken_32 : decode cX7_taken 32 = .ok (.iload_n 2, 1) := by decide +kernel
theorem dX7_taken_33 : decode cX7_taken 33 = .ok (.invokevirtual 152, 3) := by decide +kernel
theorem dX7_taken_36 : decode cX7_taken 36 = .ok (.ifCond .eq 7, 3) := by decide +kernel
theorem dX7_taken_39 : decode cX7_taken 39 = .ok (.iconst 1, 1) := by decide +kernel
theorem dX7_taken_40 : decode cX7_taken 40 = .ok (.goto 4, 3) := by decide +kernel
theorem dX7_taken_43 : decode cX7_taken 43 = .ok (.iconst 0, 1) := by decide +kernel
theorem dX7_taken_44 : decode cX7_taken 44 = .ok (.ireturn, 1) := by decide +kernel
theorem dX7_exchange_0 : decode cX7_exchange 0 = .ok (.iload_n 1, 1) := by decide +kernel
theorem dX7_exchange_1 : decode cX7_exchange 1 = .ok (.invokestatic 54, 3) := by decide +kernel
theorem dX7_exchange_4 : decode cX7_exchange 4 = .ok (.ifCond .eq 10, 3) := by decide +kernel
theorem dX7_exchange_7 : decode cX7_exchange 7 = .ok (.iload_n 2, 1) := by decide +kernel
theorem dX7_exchange_8 : decode cX7_exchange 8 = .ok (.invokestatic 54, 3) := by decide +kernel
theorem dX7_exchange_11 : decode cX7_exchange 11 = .ok (.ifCond .ne 5, 3) := by decide +kernel
theorem dX7_exchange_14 : decode cX7_exchange 14 = .ok (.iconst (-1), 1) := by decide +kernel
theorem dX7_exchange_15 : decode cX7_exchange 15 = .ok (.ireturn, 1) := by decide +kernel
theorem dX7_exchange_16 : decode cX7_exchange 16 = .ok (.aload_n 0, 1) := by decide +kernel
theorem dX7_exchange_17 : decode cX7_exchange 17 = .ok (.getfield 12, 3) := by decide +kernel
theorem dX7_exchange_20 : decode cX7_exchange 20 = .ok (.getfield 154, 3) := by decide +kernel
theorem dX7_exchange_23 : decode cX7_exchange 23 = .ok (.iload_n 1, 1) := by decide +kernel
theorem dX7_exchange_24 : decode cX7_exchange 24 = .ok (.iaload, 1) := by decide +kernel
theorem dX7_exchange_25 : decode cX7_exchange 25 = .ok (.istore_n 3, 1) := by decide +kernel
theorem dX7_exchange_26 : decode cX7_exchange 26 = .ok (.aload_n 0, 1) := by decide +kernel
theorem dX7_exchange_27 : decode cX7_exchange 27 = .ok (.getfield 12, 3) := by decide +kernel
theorem dX7_exchange_30 : decode cX7_exchange 30 = .ok (.getfield 154, 3) := by decide +kernel
theorem dX7_exchange_33 : decode cX7_exchange 33 = .ok (.iload_n 1, 1) := by decide +kernel
theorem dX7_exchange_34 : decode cX7_exchange 34 = .ok (.aload_n 0, 1) := by decide +kernel
theorem dX7_exchange_35 : decode cX7_exchange 35 = .ok (.getfield 12, 3) := by decide +kernel
theorem dX7_exchange_38 : decode cX7_exchange 38 = .ok (.getfield 154, 3) := by decide +kernel
theorem dX7_exchange_41 : decode cX7_exchange 41 = .ok (.iload_n 2, 1) := by decide +kernel
theorem dX7_exchange_42 : decode cX7_exchange 42 = .ok (.iaload, 1) := by decide +kernel
theorem dX7_exchange_43 : decode cX7_exchange 43 = .ok (.iastore, 1) := by decide +kernel
theorem dX7_exchange_44 : decode cX7_exchange 44 = .ok (.aload_n 0, 1) := by decide +kernel
theorem dX7_exchange_45 : decode cX7_exchange 45 = .ok (.getfield 12, 3) := by decide +kernel
theorem dX7_exchange_48 : decode cX7_exchange 48 = .ok (.getfield 154, 3) := by decide +kernel
theorem dX7_exchange_51 : decode cX7_exchange 51 = .ok (.iload_n 2, 1) := by decide +kernel
theorem dX7_exchange_52 : decode cX7_exchange 52 = .ok (.iload_n 3, 1) := by decide +kernel
theorem dX7_exchange_53 : decode cX7_exchange 53 = .ok (.iastore, 1) := by decide +kernel
theorem dX7_exchange_54 : decode cX7_exchange 54 = .ok (.aload_n 0, 1) := by decide +kernel
theorem dX7_exchange_55 : decode cX7_exchange 55 = .ok (.getfield 12, 3) := by decide +kernel
theorem dX7_exchange_58 : decode cX7_exchange 58 = .ok (.getfield 154, 3) := by decide +kernel
theorem dX7_exchange_61 : decode cX7_exchange 61 = .ok (.iload_n 1, 1) := by decide +kernel
theorem dX7_exchange_62 : decode cX7_exchange 62 = .ok (.iaload, 1) := by decide +kernel
theorem dX7_exchange_63 : decode cX7_exchange 63 = .ok (.ireturn, 1) := by decide +kernel
theorem dX7_hand_0 : decode cX7_hand 0 = .ok (.iload_n 1, 1) := by decide +kernel
theorem dX7_hand_1 : decode cX7_hand 1 = .ok (.invokestatic 157, 3) := by decide +kernel
theorem dX7_hand_4 : decode cX7_hand 4 = .ok (.ifCond .ne 6, 3) := by decide +kernel
theorem dX7_hand_7 : decode cX7_hand 7 = .ok (.bipush (-2), 2) := by decide +kernel
theorem dX7_hand_9 : decode cX7_hand 9 = .ok (.ireturn, 1) := by decide +kernel
theorem dX7_hand_10 : decode cX7_hand 10 = .ok (.aload_n 0, 1) := by decide +kernel
theorem dX7_hand_11 : decode cX7_hand 11 = .ok (.getfield 30, 3) := by decide +kernel
theorem dX7_hand_14 : decode cX7_hand 14 = .ok (.aload_n 0, 1) := by decide +kernel
theorem dX7_hand_15 : decode cX7_hand 15 = .ok (.getfield 12, 3) := by decide +kernel
theorem dX7_hand_18 : decode cX7_hand 18 = .ok (.bipush 127, 2) := by decide +kernel
theorem dX7_hand_20 : decode cX7_hand 20 = .ok (.iload_n 1, 1) := by decide +kernel
theorem dX7_hand_21 : decode cX7_hand 21 = .ok (.ifCond .ne 7, 3) := by decide +kernel
theorem dX7_hand_24 : decode cX7_hand 24 = .ok (.iconst 0, 1) := by decide +kernel
theorem dX7_hand_25 : decode cX7_hand 25 = .ok (.goto 10, 3) := by decide +kernel
theorem dX7_hand_28 : decode cX7_hand 28 = .ok (.aload_n 0, 1) := by decide +kernel
theorem dX7_hand_29 : decode cX7_hand 29 = .ok (.getfield 12, 3) := by decide +kernel
theorem dX7_hand_32 : decode cX7_hand 32 = .ok (.invokevirtual 160, 3) := by decide +kernel
theorem dX7_hand_35 : decode cX7_hand 35 = .ok (.iconst 0, 1) := by decide +kernel
theorem dX7_hand_36 : decode cX7_hand 36 = .ok (.invokevirtual 163, 3) := by decide +kernel
theorem dX7_hand_39 : decode cX7_hand 39 = .ok (.aload_n 0, 1) := by decide +kernel
theorem dX7_hand_40 : decode cX7_hand 40 = .ok (.getfield 30, 3) := by decide +kernel
theorem dX7_hand_43 : decode cX7_hand 43 = .ok (.aload_n 0, 1) := by decide +kernel
theorem dX7_hand_44 : decode cX7_hand 44 = .ok (.getfield 12, 3) := by decide +kernel
theorem dX7_hand_47 : decode cX7_hand 47 = .ok (.getfield 154, 3) := by decide +kernel
theorem dX7_hand_50 : decode cX7_hand 50 = .ok (.invokevirtual 167, 3) := by decide +kernel
theorem dX7_hand_53 : decode cX7_hand 53 = .ok (.ireturn, 1) := by decide +kernel
theorem dX7_count_0 : decode cX7_count 0 = .ok (.iload_n 1, 1) := by decide +kernel
theorem dX7_count_1 : decode cX7_count 1 = .ok (.bipush 10, 2) := by decide +kernel
theorem dX7_count_3 : decode cX7_count 3 = .ok (.if_icmp .lt 22, 3) := by decide +kernel
theorem dX7_count_6 : decode cX7_count 6 = .ok (.iload_n 1, 1) := by decide +kernel
theorem dX7_count_7 : decode cX7_count 7 = .ok (.bipush 17, 2) := by decide +kernel
theorem dX7_count_9 : decode cX7_count 9 = .ok (.if_icmp .ge 16, 3) := by decide +kernel
theorem dX7_count_12 : decode cX7_count 12 = .ok (.aload_n 0, 1) := by decide +kernel
theorem dX7_count_13 : decode cX7_count 13 = .ok (.getfield 12, 3) := by decide +kernel
theorem dX7_count_16 : decode cX7_count 16 = .ok (.getfield 154, 3) := by decide +kernel
theorem dX7_count_19 : decode cX7_count 19 = .ok (.iload_n 1, 1) := by decide +kernel
theorem dX7_count_20 : decode cX7_count 20 = .ok (.bipush 10, 2) := by decide +kernel
theorem dX7_count_22 : decode cX7_count 22 = .ok (.isub, 1) := by decide +kernel
theorem dX7_count_23 : decode cX7_count 23 = .ok (.iaload, 1) := by decide +kernel
theorem dX7_count_24 : decode cX7_count 24 = .ok (.ireturn, 1) := by decide +kernel
theorem dX7_count_25 : decode cX7_count 25 = .ok (.iload_n 1, 1) := by decide +kernel
theorem dX7_count_26 : decode cX7_count 26 = .ok (.tableswitch 155 0 6 #[42, 50, 70, 78, 102, 121, 150], 42) := by decide +kernel
theorem dX7_count_68 : decode cX7_count 68 = .ok (.aload_n 0, 1) := by decide +kernel
theorem dX7_count_69 : decode cX7_count 69 = .ok (.getfield 12, 3) := by decide +kernel
theorem dX7_count_72 : decode cX7_count 72 = .ok (.getfield 58, 3) := by decide +kernel
theorem dX7_count_75 : decode cX7_count 75 = .ok (.ireturn, 1) := by decide +kernel
theorem dX7_count_76 : decode cX7_count 76 = .ok (.aload_n 0, 1) := by decide +kernel
theorem dX7_count_77 : decode cX7_count 77 = .ok (.getfield 23, 3) := by decide +kernel
theorem dX7_count_80 : decode cX7_count 80 = .ok (.aload_n 0, 1) := by decide +kernel
theorem dX7_count_81 : decode cX7_count 81 = .ok (.getfield 12, 3) := by decide +kernel
theorem dX7_count_84 : decode cX7_count 84 = .ok (.iconst 0, 1) := by decide +kernel
theorem dX7_count_85 : decode cX7_count 85 = .ok (.invokevirtual 97, 3) := by decide +kernel
theorem dX7_count_88 : decode cX7_count 88 = .ok (.aload_n 0, 1) := by decide +kernel
theorem dX7_count_89 : decode cX7_count 89 = .ok (.getfield 23, 3) := by decide +kernel
theorem dX7_count_92 : decode cX7_count 92 = .ok (.getfield 170, 3) := by decide +kernel
theorem dX7_count_95 : decode cX7_count 95 = .ok (.ireturn, 1) := by decide +kernel
theorem dX7_count_96 : decode cX7_count 96 = .ok (.aload_n 0, 1) := by decide +kernel
theorem dX7_count_97 : decode cX7_count 97 = .ok (.getfield 12, 3) := by decide +kernel
theorem dX7_count_100 : decode cX7_count 100 = .ok (.invokevirtual 124, 3) := by decide +kernel
theorem dX7_count_103 : decode cX7_count 103 = .ok (.ireturn, 1) := by decide +kernel
theorem dX7_count_104 : decode cX7_count 104 = .ok (.aload_n 0, 1) := by decide +kernel
theorem dX7_count_105 : decode cX7_count 105 = .ok (.getfield 50, 3) := by decide +kernel
theorem dX7_count_108 : decode cX7_count 108 = .ok (.aload_n 0, 1) := by decide +kernel
theorem dX7_count_109 : decode cX7_count 109 = .ok (.invokevirtual 144, 3) := by decide +kernel
theorem dX7_count_112 : decode cX7_count 112 = .ok (.invokevirtual 148, 3) := by decide +kernel
theorem dX7_count_115 : decode cX7_count 115 = .ok (.aload_n 0, 1) := by decide +kernel
theorem dX7_count_116 : decode cX7_count 116 = .ok (.invokevirtual 173, 3) := by decide +kernel
theorem dX7_count_119 : decode cX7_count 119 = .ok (.aload_n 0, 1) := by decide +kernel
theorem dX7_count_120 : decode cX7_count 120 = .ok (.getfield 50, 3) := by decide +kernel
theorem dX7_count_123 : decode cX7_count 123 = .ok (.getfield 176, 3) := by decide +kernel
theorem dX7_count_126 : decode cX7_count 126 = .ok (.iadd, 1) := by decide +kernel
theorem dX7_count_127 : decode cX7_count 127 = .ok (.ireturn, 1) := by decide +kernel
theorem dX7_count_128 : decode cX7_count 128 = .ok (.aload_n 0, 1) := by decide +kernel
theorem dX7_count_129 : decode cX7_count 129 = .ok (.getfield 50, 3) := by decide +kernel
theorem dX7_count_132 : decode cX7_count 132 = .ok (.aload_n 0, 1) := by decide +kernel
theorem dX7_count_133 : decode cX7_count 133 = .ok (.invokevirtual 144, 3) := by decide +kernel
theorem dX7_count_136 : decode cX7_count 136 = .ok (.invokevirtual 148, 3) := by decide +kernel
theorem dX7_count_139 : decode cX7_count 139 = .ok (.aload_n 0, 1) := by decide +kernel
theorem dX7_count_140 : decode cX7_count 140 = .ok (.getfield 50, 3) := by decide +kernel
theorem dX7_count_143 : decode cX7_count 143 = .ok (.getfield 179, 3) := by decide +kernel
theorem dX7_count_146 : decode cX7_count 146 = .ok (.ireturn, 1) := by decide +kernel
theorem dX7_count_147 : decode cX7_count 147 = .ok (.aload_n 0, 1) := by decide +kernel
theorem dX7_count_148 : decode cX7_count 148 = .ok (.invokevirtual 173, 3) := by decide +kernel
theorem dX7_count_151 : decode cX7_count 151 = .ok (.aload_n 0, 1) := by decide +kernel
theorem dX7_count_152 : decode cX7_count 152 = .ok (.getfield 50, 3) := by decide +kernel
theorem dX7_count_155 : decode cX7_count 155 = .ok (.aload_n 0, 1) := by decide +kernel
theorem dX7_count_156 : decode cX7_count 156 = .ok (.invokevirtual 144, 3) := by decide +kernel
theorem dX7_count_159 : decode cX7_count 159 = .ok (.aload_n 0, 1) := by decide +kernel
theorem dX7_count_160 : decode cX7_count 160 = .ok (.getfield 12, 3) := by decide +kernel
theorem dX7_count_163 : decode cX7_count 163 = .ok (.invokevirtual 124, 3) := by decide +kernel
theorem dX7_count_166 : decode cX7_count 166 = .ok (.invokestatic 182, 3) := by decide +kernel
theorem dX7_count_169 : decode cX7_count 169 = .ok (.iconst 1, 1) := by decide +kernel
theorem dX7_count_170 : decode cX7_count 170 = .ok (.isub, 1) := by decide +kernel
theorem dX7_count_171 : decode cX7_count 171 = .ok (.invokevirtual 188, 3) := by decide +kernel
theorem dX7_count_174 : decode cX7_count 174 = .ok (.iadd, 1) := by decide +kernel
theorem dX7_count_175 : decode cX7_count 175 = .ok (.ireturn, 1) := by decide +kernel
theorem dX7_count_176 : decode cX7_count 176 = .ok (.aload_n 0, 1) := by decide +kernel
theorem dX7_count_177 : decode cX7_count 177 = .ok (.getfield 192, 3) := by decide +kernel
theorem dX7_count_180 : decode cX7_count 180 = .ok (.ireturn, 1) := by decide +kernel
theorem dX7_count_181 : decode cX7_count 181 = .ok (.bipush (-2), 2) := by decide +kernel
theorem dX7_count_183 : decode cX7_count 183 = .ok (.ireturn, 1) := by decide +kernel
theorem dX7_image_0 : decode cX7_image 0 = .ok (.iload_n 1, 1) := by decide +kernel
theorem dX7_image_1 : decode cX7_image 1 = .ok (.ifCond .lt 8, 3) := by decide +kernel
theorem dX7_image_4 : decode cX7_image 4 = .ok (.iload_n 1, 1) := by decide +kernel
theorem dX7_image_5 : decode cX7_image 5 = .ok (.iconst 2, 1) := by decide +kernel
theorem dX7_image_6 : decode cX7_image 6 = .ok (.if_icmp .lt 6, 3) := by decide +kernel
theorem dX7_image_9 : decode cX7_image 9 = .ok (.bipush (-2), 2) := by decide +kernel
theorem dX7_image_11 : decode cX7_image 11 = .ok (.ireturn, 1) := by decide +kernel
theorem dX7_image_12 : decode cX7_image 12 = .ok (.aload_n 0, 1) := by decide +kernel
theorem dX7_image_13 : decode cX7_image 13 = .ok (.getfield 16, 3) := by decide +kernel
theorem dX7_image_16 : decode cX7_image 16 = .ok (.iload_n 1, 1) := by decide +kernel
theorem dX7_image_17 : decode cX7_image 17 = .ok (.aaload, 1) := by decide +kernel
theorem dX7_image_18 : decode cX7_image 18 = .ok (.aload_n 0, 1) := by decide +kernel
theorem dX7_image_19 : decode cX7_image 19 = .ok (.getfield 12, 3) := by decide +kernel
theorem dX7_image_22 : decode cX7_image 22 = .ok (.invokevirtual 195, 3) := by decide +kernel
theorem dX7_image_25 : decode cX7_image 25 = .ok (.aload_n 0, 1) := by decide +kernel
theorem dX7_image_26 : decode cX7_image 26 = .ok (.dup, 1) := by decide +kernel
theorem dX7_image_27 : decode cX7_image 27 = .ok (.getfield 192, 3) := by decide +kernel
theorem dX7_image_30 : decode cX7_image 30 = .ok (.iconst 1, 1) := by decide +kernel
theorem dX7_image_31 : decode cX7_image 31 = .ok (.iload_n 1, 1) := by decide +kernel
theorem dX7_image_32 : decode cX7_image 32 = .ok (.ishl, 1) := by decide +kernel
theorem dX7_image_33 : decode cX7_image 33 = .ok (.ior, 1) := by decide +kernel
theorem dX7_image_34 : decode cX7_image 34 = .ok (.putfield 192, 3) := by decide +kernel
theorem dX7_image_37 : decode cX7_image 37 = .ok (.iconst 1, 1) := by decide +kernel
theorem dX7_image_38 : decode cX7_image 38 = .ok (.ireturn, 1) := by decide +kernel
theorem dX7_restore_0 : decode cX7_restore 0 = .ok (.iload_n 1, 1) := by decide +kernel
theorem dX7_restore_1 : decode cX7_restore 1 = .ok (.ifCond .lt 8, 3) := by decide +kernel
theorem dX7_restore_4 : decode cX7_restore 4 = .ok (.iload_n 1, 1) := by decide +kernel
theorem dX7_restore_5 : decode cX7_restore 5 = .ok (.iconst 2, 1) := by decide +kernel
theorem dX7_restore_6 : decode cX7_restore 6 = .ok (.if_icmp .lt 6, 3) := by decide +kernel
theorem dX7_restore_9 : decode cX7_restore 9 = .ok (.bipush (-2), 2) := by decide +kernel
theorem dX7_restore_11 : decode cX7_restore 11 = .ok (.ireturn, 1) := by decide +kernel
theorem dX7_restore_12 : decode cX7_restore 12 = .ok (.aload_n 0, 1) := by decide +kernel
theorem dX7_restore_13 : decode cX7_restore 13 = .ok (.getfield 192, 3) := by decide +kernel
theorem dX7_restore_16 : decode cX7_restore 16 = .ok (.iload_n 1, 1) := by decide +kernel
theorem dX7_restore_17 : decode cX7_restore 17 = .ok (.ishr, 1) := by decide +kernel
theorem dX7_restore_18 : decode cX7_restore 18 = .ok (.iconst 1, 1) := by decide +kernel
theorem dX7_restore_19 : decode cX7_restore 19 = .ok (.iand, 1) := by decide +kernel
theorem dX7_restore_20 : decode cX7_restore 20 = .ok (.ifCond .ne 6, 3) := by decide +kernel
theorem dX7_restore_23 : decode cX7_restore 23 = .ok (.bipush (-3), 2) := by decide +kernel
theorem dX7_restore_25 : decode cX7_restore 25 = .ok (.ireturn, 1) := by decide +kernel
theorem dX7_restore_26 : decode cX7_restore 26 = .ok (.aload_n 0, 1) := by decide +kernel
theorem dX7_restore_27 : decode cX7_restore 27 = .ok (.getfield 12, 3) := by decide +kernel
theorem dX7_restore_30 : decode cX7_restore 30 = .ok (.aload_n 0, 1) := by decide +kernel
theorem dX7_restore_31 : decode cX7_restore 31 = .ok (.getfield 16, 3) := by decide +kernel
theorem dX7_restore_34 : decode cX7_restore 34 = .ok (.iload_n 1, 1) := by decide +kernel
theorem dX7_restore_35 : decode cX7_restore 35 = .ok (.aaload, 1) := by decide +kernel
theorem dX7_restore_36 : decode cX7_restore 36 = .ok (.invokevirtual 195, 3) := by decide +kernel
theorem dX7_restore_39 : decode cX7_restore 39 = .ok (.aload_n 0, 1) := by decide +kernel
theorem dX7_restore_40 : decode cX7_restore 40 = .ok (.invokevirtual 66, 3) := by decide +kernel
theorem dX7_restore_43 : decode cX7_restore 43 = .ok (.iconst 1, 1) := by decide +kernel
theorem dX7_restore_44 : decode cX7_restore 44 = .ok (.ireturn, 1) := by decide +kernel
theorem dX7_changed_0 : decode cX7_changed 0 = .ok (.aload_n 0, 1) := by decide +kernel
theorem dX7_changed_1 : decode cX7_changed 1 = .ok (.getfield 30, 3) := by decide +kernel
theorem dX7_changed_4 : decode cX7_changed 4 = .ok (.aload_n 0, 1) := by decide +kernel
theorem dX7_changed_5 : decode cX7_changed 5 = .ok (.getfield 12, 3) := by decide +kernel
theorem dX7_changed_8 : decode cX7_changed 8 = .ok (.invokevirtual 34, 3) := by decide +kernel
theorem dX7_changed_11 : decode cX7_changed 11 = .ok (.aload_n 0, 1) := by decide +kernel
theorem dX7_changed_12 : decode cX7_changed 12 = .ok (.getfield 43, 3) := by decide +kernel
theorem dX7_changed_15 : decode cX7_changed 15 = .ok (.invokevirtual 198, 3) := by decide +kernel
theorem dX7_changed_18 : decode cX7_changed 18 = .ok (.return_, 1) := by decide +kernel
theorem dX7_isVariable_0 : decode cX7_isVariable 0 = .ok (.iload_n 0, 1) := by decide +kernel
theorem dX7_isVariable_1 : decode cX7_isVariable 1 = .ok (.ifCond .lt 13, 3) := by decide +kernel
theorem dX7_isVariable_4 : decode cX7_isVariable 4 = .ok (.iload_n 0, 1) := by decide +kernel
theorem dX7_isVariable_5 : decode cX7_isVariable 5 = .ok (.bipush 7, 2) := by decide +kernel
theorem dX7_isVariable_7 : decode cX7_isVariable 7 = .ok (.if_icmp .ge 7, 3) := by decide +kernel
theorem dX7_isVariable_10 : decode cX7_isVariable 10 = .ok (.iconst 1, 1) := by decide +kernel
theorem dX7_isVariable_11 : decode cX7_isVariable 11 = .ok (.goto 4, 3) := by decide +kernel
theorem dX7_isVariable_14 : decode cX7_isVariable 14 = .ok (.iconst 0, 1) := by decide +kernel
theorem dX7_isVariable_15 : decode cX7_isVariable 15 = .ok (.ireturn, 1) := by decide +kernel
theorem dX7_isMode_0 : decode cX7_isMode 0 = .ok (.iload_n 0, 1) := by decide +kernel
theorem dX7_isMode_1 : decode cX7_isMode 1 = .ok (.ifCond .lt 12, 3) := by decide +kernel
theorem dX7_isMode_4 : decode cX7_isMode 4 = .ok (.iload_n 0, 1) := by decide +kernel
theorem dX7_isMode_5 : decode cX7_isMode 5 = .ok (.iconst 2, 1) := by decide +kernel
theorem dX7_isMode_6 : decode cX7_isMode 6 = .ok (.if_icmp .ge 7, 3) := by decide +kernel
theorem dX7_isMode_9 : decode cX7_isMode 9 = .ok (.iconst 1, 1) := by decide +kernel
theorem dX7_isMode_10 : decode cX7_isMode 10 = .ok (.goto 4, 3) := by decide +kernel
theorem dX7_isMode_13 : decode cX7_isMode 13 = .ok (.iconst 0, 1) := by decide +kernel
theorem dX7_isMode_14 : decode cX7_isMode 14 = .ok (.ireturn, 1) := by decide +kernel
theorem dX7_isPlan_0 : decode cX7_isPlan 0 = .ok (.iload_n 0, 1) := by decide +kernel
theorem dX7_isPlan_1 : decode cX7_isPlan 1 = .ok (.iconst 1, 1) := by decide +kernel
theorem dX7_isPlan_2 : decode cX7_isPlan 2 = .ok (.if_icmp .lt 19, 3) := by decide +kernel
theorem dX7_isPlan_5 : decode cX7_isPlan 5 = .ok (.iload_n 0, 1) := by decide +kernel
theorem dX7_isPlan_6 : decode cX7_isPlan 6 = .ok (.iconst 3, 1) := by decide +kernel
theorem dX7_isPlan_7 : decode cX7_isPlan 7 = .ok (.if_icmp .gt 14, 3) := by decide +kernel
theorem dX7_isPlan_10 : decode cX7_isPlan 10 = .ok (.iload_n 1, 1) := by decide +kernel
theorem dX7_isPlan_11 : decode cX7_isPlan 11 = .ok (.invokestatic 157, 3) := by decide +kernel
theorem dX7_isPlan_14 : decode cX7_isPlan 14 = .ok (.ifCond .eq 7, 3) := by decide +kernel
theorem dX7_isPlan_17 : decode cX7_isPlan 17 = .ok (.iconst 1, 1) := by decide +kernel
theorem dX7_isPlan_18 : decode cX7_isPlan 18 = .ok (.goto 4, 3) := by decide +kernel
theorem dX7_isPlan_21 : decode cX7_isPlan 21 = .ok (.iconst 0, 1) := by decide +kernel
theorem dX7_isPlan_22 : decode cX7_isPlan 22 = .ok (.ireturn, 1) := by decide +kernel
theorem dX7_weights_0 : decode cX7_weights 0 = .ok (.aload_n 0, 1) := by decide +kernel
theorem dX7_weights_1 : decode cX7_weights 1 = .ok (.getfield 30, 3) := by decide +kernel
theorem dX7_weights_4 : decode cX7_weights 4 = .ok (.aload_n 0, 1) := by decide +kernel
theorem dX7_weights_5 : decode cX7_weights 5 = .ok (.getfield 12, 3) := by decide +kernel
theorem dX7_weights_8 : decode cX7_weights 8 = .ok (.bipush 127, 2) := by decide +kernel
theorem dX7_weights_10 : decode cX7_weights 10 = .ok (.iconst 0, 1) := by decide +kernel
theorem dX7_weights_11 : decode cX7_weights 11 = .ok (.iconst 0, 1) := by decide +kernel
theorem dX7_weights_12 : decode cX7_weights 12 = .ok (.invokevirtual 163, 3) := by decide +kernel
theorem dX7_weights_15 : decode cX7_weights 15 = .ok (.aload_n 0, 1) := by decide +kernel
theorem dX7_weights_16 : decode cX7_weights 16 = .ok (.getfield 30, 3) := by decide +kernel
theorem dX7_weights_19 : decode cX7_weights 19 = .ok (.getfield 201, 3) := by decide +kernel
theorem dX7_weights_22 : decode cX7_weights 22 = .ok (.areturn, 1) := by decide +kernel
theorem dX7_first_0 : decode cX7_first 0 = .ok (.aload_n 0, 1) := by decide +kernel
theorem dX7_first_1 : decode cX7_first 1 = .ok (.getfield 12, 3) := by decide +kernel
theorem dX7_first_4 : decode cX7_first 4 = .ok (.getfield 58, 3) := by decide +kernel
theorem dX7_first_7 : decode cX7_first 7 = .ok (.ifCond .le 7, 3) := by decide +kernel
theorem dX7_first_10 : decode cX7_first 10 = .ok (.iconst 1, 1) := by decide +kernel
theorem dX7_first_11 : decode cX7_first 11 = .ok (.goto 4, 3) := by decide +kernel
theorem dX7_first_14 : decode cX7_first 14 = .ok (.iconst 0, 1) := by decide +kernel
theorem dX7_first_15 : decode cX7_first 15 = .ok (.ireturn, 1) := by decide +kernel
theorem dX8_init_0 : decode cX8_init 0 = .ok (.aload_n 0, 1) := by decide +kernel
theorem dX8_init_1 : decode cX8_init 1 = .ok (.invokespecial 1, 3) := by decide +kernel
theorem dX8_init_4 : decode cX8_init 4 = .ok (.aload_n 0, 1) := by decide +kernel
theorem dX8_init_5 : decode cX8_init 5 = .ok (.bipush 10, 2) := by decide +kernel
theorem dX8_init_7 : decode cX8_init 7 = .ok (.newarray .int, 2) := by decide +kernel
theorem dX8_init_9 : decode cX8_init 9 = .ok (.putfield 7, 3) := by decide +kernel
theorem dX8_init_12 : decode cX8_init 12 = .ok (.aload_n 0, 1) := by decide +kernel
theorem dX8_init_13 : decode cX8_init 13 = .ok (.bipush 10, 2) := by decide +kernel
theorem dX8_init_15 : decode cX8_init 15 = .ok (.newarray .int, 2) := by decide +kernel
theorem dX8_init_17 : decode cX8_init 17 = .ok (.putfield 13, 3) := by decide +kernel
theorem dX8_init_20 : decode cX8_init 20 = .ok (.aload_n 0, 1) := by decide +kernel
theorem dX8_init_21 : decode cX8_init 21 = .ok (.bipush 10, 2) := by decide +kernel
theorem dX8_init_23 : decode cX8_init 23 = .ok (.newarray .int, 2) := by decide +kernel
theorem dX8_init_25 : decode cX8_init 25 = .ok (.putfield 16, 3) := by decide +kernel
theorem dX8_init_28 : decode cX8_init 28 = .ok (.aload_n 0, 1) := by decide +kernel
theorem dX8_init_29 : decode cX8_init 29 = .ok (.bipush 10, 2) := by decide +kernel
theorem dX8_init_31 : decode cX8_init 31 = .ok (.newarray .int, 2) := by decide +kernel
theorem dX8_init_33 : decode cX8_init 33 = .ok (.putfield 19, 3) := by decide +kernel
theorem dX8_init_36 : decode cX8_init 36 = .ok (.aload_n 0, 1) := by decide +kernel
theorem dX8_init_37 : decode cX8_init 37 = .ok (.bipush 7, 2) := by decide +kernel
theorem dX8_init_39 : decode cX8_init 39 = .ok (.newarray .int, 2) := by decide +kernel
theorem dX8_init_41 : decode cX8_init 41 = .ok (.putfield 22, 3) := by decide +kernel
theorem dX8_init_44 : decode cX8_init 44 = .ok (.aload_n 0, 1) := by decide +kernel
theorem dX8_init_45 : decode cX8_init 45 = .ok (.bipush 7, 2) := by decide +kernel
theorem dX8_init_47 : decode cX8_init 47 = .ok (.newarray .int, 2) := by decide +kernel
theorem dX8_init_49 : decode cX8_init 49 = .ok (.putfield 25, 3) := by decide +kernel
theorem dX8_init_52 : decode cX8_init 52 = .ok (.aload_n 0, 1) := by decide +kernel
theorem dX8_init_53 : decode cX8_init 53 = .ok (.bipush 7, 2) := by decide +kernel
theorem dX8_init_55 : decode cX8_init 55 = .ok (.newarray .boolean, 2) := by decide +kernel
theorem dX8_init_57 : decode cX8_init 57 = .ok (.putfield 28, 3) := by decide +kernel
theorem dX8_init_60 : decode cX8_init 60 = .ok (.aload_n 0, 1) := by decide +kernel
theorem dX8_init_61 : decode cX8_init 61 = .ok (.iconst 2, 1) := by decide +kernel
theorem dX8_init_62 : decode cX8_init 62 = .ok (.newarray .boolean, 2) := by decide +kernel
theorem dX8_init_64 : decode cX8_init 64 = .ok (.putfield 32, 3) := by decide +kernel
theorem dX8_init_67 : decode cX8_init 67 = .ok (.aload_n 0, 1) := by decide +kernel
theorem dX8_init_68 : decode cX8_init 68 = .ok (.bipush 30, 2) := by decide +kernel
theorem dX8_init_70 : decode cX8_init 70 = .ok (.newarray .int, 2) := by decide +kernel
theorem dX8_init_72 : decode cX8_init 72 = .ok (.putfield 35, 3) := by decide +kernel
theorem dX8_init_75 : decode cX8_init 75 = .ok (.aload_n 0, 1) := by decide +kernel
theorem dX8_init_76 : decode cX8_init 76 = .ok (.bipush 7, 2) := by decide +kernel
theorem dX8_init_78 : decode cX8_init 78 = .ok (.newarray .int, 2) := by decide +kernel
theorem dX8_init_80 : decode cX8_init 80 = .ok (.putfield 38, 3) := by decide +kernel
theorem dX8_init_83 : decode cX8_init 83 = .ok (.aload_n 0, 1) := by decide +kernel
theorem dX8_init_84 : decode cX8_init 84 = .ok (.bipush 88, 2) := by decide +kernel
theorem dX8_init_86 : decode cX8_init 86 = .ok (.newarray .int, 2) := by decide +kernel
theorem dX8_init_88 : decode cX8_init 88 = .ok (.putfield 41, 3) := by decide +kernel
theorem dX8_init_91 : decode cX8_init 91 = .ok (.aload_n 0, 1) := by decide +kernel
theorem dX8_init_92 : decode cX8_init 92 = .ok (.sipush 256, 3) := by decide +kernel
theorem dX8_init_95 : decode cX8_init 95 = .ok (.newarray .int, 2) := by decide +kernel
theorem dX8_init_97 : decode cX8_init 97 = .ok (.putfield 44, 3) := by decide +kernel
theorem dX8_init_100 : decode cX8_init 100 = .ok (.aload_n 0, 1) := by decide +kernel
theorem dX8_init_101 : decode cX8_init 101 = .ok (.sipush 1792, 3) := by decide +kernel
theorem dX8_init_104 : decode cX8_init 104 = .ok (.newarray .int, 2) := by decide +kernel
theorem dX8_init_106 : decode cX8_init 106 = .ok (.putfield 47, 3) := by decide +kernel
theorem dX8_init_109 : decode cX8_init 109 = .ok (.aload_n 0, 1) := by decide +kernel
theorem dX8_init_110 : decode cX8_init 110 = .ok (.bipush 7, 2) := by decide +kernel
theorem dX8_init_112 : decode cX8_init 112 = .ok (.newarray .int, 2) := by decide +kernel
theorem dX8_init_114 : decode cX8_init 114 = .ok (.putfield 50, 3) := by decide +kernel
theorem dX8_init_117 : decode cX8_init 117 = .ok (.aload_n 0, 1) := by decide +kernel
theorem dX8_init_118 : decode cX8_init 118 = .ok (.bipush 7, 2) := by decide +kernel
theorem dX8_init_120 : decode cX8_init 120 = .ok (.newarray .int, 2) := by decide +kernel
theorem dX8_init_122 : decode cX8_init 122 = .ok (.putfield 53, 3) := by decide +kernel
theorem dX8_init_125 : decode cX8_init 125 = .ok (.aload_n 0, 1) := by decide +kernel
theorem dX8_init_126 : decode cX8_init 126 = .ok (.bipush 7, 2) := by decide +kernel
theorem dX8_init_128 : decode cX8_init 128 = .ok (.newarray .int, 2) := by decide +kernel
theorem dX8_init_130 : decode cX8_init 130 = .ok (.putfield 56, 3) := by decide +kernel
theorem dX8_init_133 : decode cX8_init 133 = .ok (.aload_n 0, 1) := by decide +kernel
theorem dX8_init_134 : decode cX8_init 134 = .ok (.iconst 3, 1) := by decide +kernel
theorem dX8_init_135 : decode cX8_init 135 = .ok (.newarray .int, 2) := by decide +kernel
theorem dX8_init_137 : decode cX8_init 137 = .ok (.putfield 59, 3) := by decide +kernel
theorem dX8_init_140 : decode cX8_init 140 = .ok (.aload_n 0, 1) := by decide +kernel
theorem dX8_init_141 : decode cX8_init 141 = .ok (.bipush 49, 2) := by decide +kernel
theorem dX8_init_143 : decode cX8_init 143 = .ok (.newarray .int, 2) := by decide +kernel
theorem dX8_init_145 : decode cX8_init 145 = .ok (.putfield 62, 3) := by decide +kernel
theorem dX8_init_148 : decode cX8_init 148 = .ok (.aload_n 0, 1) := by decide +kernel
theorem dX8_init_149 : decode cX8_init 149 = .ok (.bipush 49, 2) := by decide +kernel
theorem dX8_init_151 : decode cX8_init 151 = .ok (.newarray .boolean, 2) := by decide +kernel
theorem dX8_init_153 : decode cX8_init 153 = .ok (.putfield 65, 3) := by decide +kernel
theorem dX8_init_156 : decode cX8_init 156 = .ok (.aload_n 0, 1) := by decide +kernel
theorem dX8_init_157 : decode cX8_init 157 = .ok (.bipush 49, 2) := by decide +kernel
theorem dX8_init_159 : decode cX8_init 159 = .ok (.newarray .boolean, 2) := by decide +kernel
theorem dX8_init_161 : decode cX8_init 161 = .ok (.putfield 68, 3) := by decide +kernel
theorem dX8_init_164 : decode cX8_init 164 = .ok (.aload_n 0, 1) := by decide +kernel
theorem dX8_init_165 : decode cX8_init 165 = .ok (.bipush 7, 2) := by decide +kernel
theorem dX8_init_167 : decode cX8_init 167 = .ok (.newarray .int, 2) := by decide +kernel
theorem dX8_init_169 : decode cX8_init 169 = .ok (.putfield 71, 3) := by decide +kernel
theorem dX8_init_172 : decode cX8_init 172 = .ok (.aload_n 0, 1) := by decide +kernel
theorem dX8_init_173 : decode cX8_init 173 = .ok (.bipush 7, 2) := by decide +kernel
theorem dX8_init_175 : decode cX8_init 175 = .ok (.newarray .int, 2) := by decide +kernel
theorem dX8_init_177 : decode cX8_init 177 = .ok (.putfield 74, 3) := by decide +kernel
theorem dX8_init_180 : decode cX8_init 180 = .ok (.aload_n 0, 1) := by decide +kernel
theorem dX8_init_181 : decode cX8_init 181 = .ok (.bipush 124, 2) := by decide +kernel
theorem dX8_init_183 : decode cX8_init 183 = .ok (.newarray .int, 2) := by decide +kernel
theorem dX8_init_185 : decode cX8_init 185 = .ok (.putfield 77, 3) := by decide +kernel
theorem dX8_init_188 : decode cX8_init 188 = .ok (.aload_n 0, 1) := by decide +kernel
theorem dX8_init_189 : decode cX8_init 189 = .ok (.iconst 2, 1) := by decide +kernel
theorem dX8_init_190 : decode cX8_init 190 = .ok (.newarray .boolean, 2) := by decide +kernel
theorem dX8_init_192 : decode cX8_init 192 = .ok (.putfield 80, 3) := by decide +kernel
theorem dX8_init_195 : decode cX8_init 195 = .ok (.iconst 0, 1) := by decide +kernel
theorem dX8_init_196 : decode cX8_init 196 = .ok (.istore_n 1, 1) := by decide +kernel
theorem dX8_init_197 : decode cX8_init 197 = .ok (.iload_n 1, 1) := by decide +kernel
theorem dX8_init_198 : decode cX8_init 198 = .ok (.bipush 7, 2) := by decide +kernel
theorem dX8_init_200 : decode cX8_init 200 = .ok (.if_icmp .ge 16, 3) := by decide +kernel
theorem dX8_init_203 : decode cX8_init 203 = .ok (.aload_n 0, 1) := by decide +kernel
theorem dX8_init_204 : decode cX8_init 204 = .ok (.getfield 25, 3) := by decide +kernel
theorem dX8_init_207 : decode cX8_init 207 = .ok (.iload_n 1, 1) := by decide +kernel
theorem dX8_init_208 : decode cX8_init 208 = .ok (.iload_n 1, 1) := by decide +kernel
theorem dX8_init_209 : decode cX8_init 209 = .ok (.iastore, 1) := by decide +kernel
theorem dX8_init_210 : decode cX8_init 210 = .ok (.iinc 1 1, 3) := by decide +kernel
theorem dX8_init_213 : decode cX8_init 213 = .ok (.goto (-16), 3) := by decide +kernel
theorem dX8_init_216 : decode cX8_init 216 = .ok (.aload_n 0, 1) := by decide +kernel
theorem dX8_init_217 : decode cX8_init 217 = .ok (.getfield 28, 3) := by decide +kernel
theorem dX8_init_220 : decode cX8_init 220 = .ok (.iconst 1, 1) := by decide +kernel
theorem dX8_init_221 : decode cX8_init 221 = .ok (.iconst 1, 1) := by decide +kernel
theorem dX8_init_222 : decode cX8_init 222 = .ok (.bastore, 1) := by decide +kernel
theorem dX8_init_223 : decode cX8_init 223 = .ok (.return_, 1) := by decide +kernel
theorem dX8_in_0 : decode cX8_in 0 = .ok (.iload_n 0, 1) := by decide +kernel
theorem dX8_in_1 : decode cX8_in 1 = .ok (.iload_n 1, 1) := by decide +kernel
theorem dX8_in_2 : decode cX8_in 2 = .ok (.if_icmp .lt 12, 3) := by decide +kernel
theorem dX8_in_5 : decode cX8_in 5 = .ok (.iload_n 0, 1) := by decide +kernel
theorem dX8_in_6 : decode cX8_in 6 = .ok (.iload_n 2, 1) := by decide +kernel
theorem dX8_in_7 : decode cX8_in 7 = .ok (.if_icmp .gt 7, 3) := by decide +kernel
theorem dX8_in_10 : decode cX8_in 10 = .ok (.iconst 1, 1) := by decide +kernel
theorem dX8_in_11 : decode cX8_in 11 = .ok (.goto 4, 3) := by decide +kernel
theorem dX8_in_14 : decode cX8_in 14 = .ok (.iconst 0, 1) := by decide +kernel
theorem dX8_in_15 : decode cX8_in 15 = .ok (.ireturn, 1) := by decide +kernel
theorem dX8_isVariable_0 : decode cX8_isVariable 0 = .ok (.iload_n 0, 1) := by decide +kernel
theorem dX8_isVariable_1 : decode cX8_isVariable 1 = .ok (.iconst 0, 1) := by decide +kernel
theorem dX8_isVariable_2 : decode cX8_isVariable 2 = .ok (.bipush 6, 2) := by decide +kernel
theorem dX8_isVariable_4 : decode cX8_isVariable 4 = .ok (.invokestatic 83, 3) := by decide +kernel
theorem dX8_isVariable_7 : decode cX8_isVariable 7 = .ok (.ireturn, 1) := by decide +kernel
theorem dX8_has_0 : decode cX8_has 0 = .ok (.iload_n 0, 1) := by decide +kernel
theorem dX8_has_1 : decode cX8_has 1 = .ok (.iload_n 1, 1) := by decide +kernel
theorem dX8_has_2 : decode cX8_has 2 = .ok (.ishr, 1) := by decide +kernel
theorem dX8_has_3 : decode cX8_has 3 = .ok (.iconst 1, 1) := by decide +kernel
theorem dX8_has_4 : decode cX8_has 4 = .ok (.iand, 1) := by decide +kernel
theorem dX8_has_5 : decode cX8_has 5 = .ok (.iconst 1, 1) := by decide +kernel
theorem dX8_has_6 : decode cX8_has 6 = .ok (.if_icmp .ne 7, 3) := by decide +kernel
theorem dX8_has_9 : decode cX8_has 9 = .ok (.iconst 1, 1) := by decide +kernel
theorem dX8_has_10 : decode cX8_has 10 = .ok (.goto 4, 3) := by decide +kernel
theorem dX8_has_13 : decode cX8_has 13 = .ok (.iconst 0, 1) := by decide +kernel
theorem dX8_has_14 : decode cX8_has 14 = .ok (.ireturn, 1) := by decide +kernel
theorem dX8_isStatement_0 : decode cX8_isStatement 0 = .ok (.iload_n 1, 1) := by decide +kernel
theorem dX8_isStatement_1 : decode cX8_isStatement 1 = .ok (.iconst 0, 1) := by decide +kernel
theorem dX8_isStatement_2 : decode cX8_isStatement 2 = .ok (.aload_n 0, 1) := by decide +kernel
theorem dX8_isStatement_3 : decode cX8_isStatement 3 = .ok (.getfield 87, 3) := by decide +kernel
theorem dX8_isStatement_6 : decode cX8_isStatement 6 = .ok (.iconst 1, 1) := by decide +kernel
theorem dX8_isStatement_7 : decode cX8_isStatement 7 = .ok (.isub, 1) := by decide +kernel
theorem dX8_isStatement_8 : decode cX8_isStatement 8 = .ok (.invokestatic 83, 3) := by decide +kernel
theorem dX8_isStatement_11 : decode cX8_isStatement 11 = .ok (.ireturn, 1) := by decide +kernel
theorem dX8_change_0 : decode cX8_change 0 = .ok (.aload_n 0, 1) := by decide +kernel
theorem dX8_change_1 : decode cX8_change 1 = .ok (.getfield 32, 3) := by decide +kernel
theorem dX8_change_4 : decode cX8_change 4 = .ok (.iconst 0, 1) := by decide +kernel
theorem dX8_change_5 : decode cX8_change 5 = .ok (.iconst 1, 1) := by decide +kernel
theorem dX8_change_6 : decode cX8_change 6 = .ok (.bastore, 1) := by decide +kernel
theorem dX8_change_7 : decode cX8_change 7 = .ok (.aload_n 0, 1) := by decide +kernel
theorem dX8_change_8 : decode cX8_change 8 = .ok (.getfield 32, 3) := by decide +kernel
theorem dX8_change_11 : decode cX8_change 11 = .ok (.iconst 1, 1) := by decide +kernel
theorem dX8_change_12 : decode cX8_change 12 = .ok (.iconst 1, 1) := by decide +kernel
theorem dX8_change_13 : decode cX8_change 13 = .ok (.bastore, 1) := by decide +kernel
theorem dX8_change_14 : decode cX8_change 14 = .ok (.return_, 1) := by decide +kernel
theorem dX8_put_0 : decode cX8_put 0 = .ok (.iload_n 1, 1) := by decide +kernel
theorem dX8_put_1 : decode cX8_put 1 = .ok (.iconst 0, 1) := by decide +kernel
theorem dX8_put_2 : decode cX8_put 2 = .ok (.iconst 4, 1) := by decide +kernel
theorem dX8_put_3 : decode cX8_put 3 = .ok (.invokestatic 83, 3) := by decide +kernel
theorem dX8_put_6 : decode cX8_put 6 = .ok (.ifCond .ne 6, 3) := by decide +kernel
theorem dX8_put_9 : decode cX8_put 9 = .ok (.bipush (-2), 2) := by decide +kernel
theorem dX8_put_11 : decode cX8_put 11 = .ok (.ireturn, 1) := by decide +kernel
theorem dX8_put_12 : decode cX8_put 12 = .ok (.iload_n 2, 1) := by decide +kernel
theorem dX8_put_13 : decode cX8_put 13 = .ok (.invokestatic 91, 3) := by decide +kernel
theorem dX8_put_16 : decode cX8_put 16 = .ok (.ifCond .eq 22, 3) := by decide +kernel
theorem dX8_put_19 : decode cX8_put 19 = .ok (.iload_n 3, 1) := by decide +kernel
theorem dX8_put_20 : decode cX8_put 20 = .ok (.invokestatic 91, 3) := by decide +kernel
theorem dX8_put_23 : decode cX8_put 23 = .ok (.ifCond .eq 15, 3) := by decide +kernel
theorem dX8_put_26 : decode cX8_put 26 = .ok (.iload_n 1, 1) := by decide +kernel
theorem dX8_put_27 : decode cX8_put 27 = .ok (.ifCond .le 13, 3) := by decide +kernel
theorem dX8_put_30 : decode cX8_put 30 = .ok (.iload 4, 2) := by decide +kernel
theorem dX8_put_32 : decode cX8_put 32 = .ok (.invokestatic 91, 3) := by decide +kernel
theorem dX8_put_35 : decode cX8_put 35 = .ok (.ifCond .ne 5, 3) := by decide +kernel
theorem dX8_put_38 : decode cX8_put 38 = .ok (.iconst (-1), 1) := by decide +kernel
theorem dX8_put_39 : decode cX8_put 39 = .ok (.ireturn, 1) := by decide +kernel
theorem dX8_put_40 : decode cX8_put 40 = .ok (.aload_n 0, 1) := by decide +kernel
theorem dX8_put_41 : decode cX8_put 41 = .ok (.getfield 87, 3) := by decide +kernel
theorem dX8_put_44 : decode cX8_put 44 = .ok (.bipush 10, 2) := by decide +kernel
theorem dX8_put_46 : decode cX8_put 46 = .ok (.if_icmp .ne 6, 3) := by decide +kernel
theorem dX8_put_49 : decode cX8_put 49 = .ok (.bipush (-4), 2) := by decide +kernel
theorem dX8_put_51 : decode cX8_put 51 = .ok (.ireturn, 1) := by decide +kernel
theorem dX8_put_52 : decode cX8_put 52 = .ok (.aload_n 0, 1) := by decide +kernel
theorem dX8_put_53 : decode cX8_put 53 = .ok (.getfield 7, 3) := by decide +kernel
theorem dX8_put_56 : decode cX8_put 56 = .ok (.aload_n 0, 1) := by decide +kernel
theorem dX8_put_57 : decode cX8_put 57 = .ok (.getfield 87, 3) := by decide +kernel
theorem dX8_put_60 : decode cX8_put 60 = .ok (.iload_n 1, 1) := by decide +kernel
theorem dX8_put_61 : decode cX8_put 61 = .ok (.iastore, 1) := by decide +kernel
theorem dX8_put_62 : decode cX8_put 62 = .ok (.aload_n 0, 1) := by decide +kernel
theorem dX8_put_63 : decode cX8_put 63 = .ok (.getfield 13, 3) := by decide +kernel
theorem dX8_put_66 : decode cX8_put 66 = .ok (.aload_n 0, 1) := by decide +kernel
