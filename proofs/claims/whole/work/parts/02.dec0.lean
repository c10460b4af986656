theorem dX0_init_0 : decode cX0_init 0 = .ok (.aload_n 0, 1) := by decide +kernel
theorem dX0_init_1 : decode cX0_init 1 = .ok (.invokespecial 3, 3) := by decide +kernel
theorem dX0_init_4 : decode cX0_init 4 = .ok (.aload_n 0, 1) := by decide +kernel
theorem dX0_init_5 : decode cX0_init 5 = .ok (.bipush 49, 2) := by decide +kernel
theorem dX0_init_7 : decode cX0_init 7 = .ok (.newarray .boolean, 2) := by decide +kernel
theorem dX0_init_9 : decode cX0_init 9 = .ok (.putfield 9, 3) := by decide +kernel
theorem dX0_init_12 : decode cX0_init 12 = .ok (.aload_n 0, 1) := by decide +kernel
theorem dX0_init_13 : decode cX0_init 13 = .ok (.bipush 49, 2) := by decide +kernel
theorem dX0_init_15 : decode cX0_init 15 = .ok (.newarray .int, 2) := by decide +kernel
theorem dX0_init_17 : decode cX0_init 17 = .ok (.putfield 15, 3) := by decide +kernel
theorem dX0_init_20 : decode cX0_init 20 = .ok (.aload_n 0, 1) := by decide +kernel
theorem dX0_init_21 : decode cX0_init 21 = .ok (.bipush 7, 2) := by decide +kernel
theorem dX0_init_23 : decode cX0_init 23 = .ok (.newarray .int, 2) := by decide +kernel
theorem dX0_init_25 : decode cX0_init 25 = .ok (.putfield 19, 3) := by decide +kernel
theorem dX0_init_28 : decode cX0_init 28 = .ok (.aload_n 0, 1) := by decide +kernel
theorem dX0_init_29 : decode cX0_init 29 = .ok (.bipush 7, 2) := by decide +kernel
theorem dX0_init_31 : decode cX0_init 31 = .ok (.newarray .int, 2) := by decide +kernel
theorem dX0_init_33 : decode cX0_init 33 = .ok (.putfield 22, 3) := by decide +kernel
theorem dX0_init_36 : decode cX0_init 36 = .ok (.return_, 1) := by decide +kernel
theorem dX0_has_0 : decode cX0_has 0 = .ok (.aload_n 0, 1) := by decide +kernel
theorem dX0_has_1 : decode cX0_has 1 = .ok (.getfield 9, 3) := by decide +kernel
theorem dX0_has_4 : decode cX0_has 4 = .ok (.iload_n 1, 1) := by decide +kernel
theorem dX0_has_5 : decode cX0_has 5 = .ok (.bipush 7, 2) := by decide +kernel
theorem dX0_has_7 : decode cX0_has 7 = .ok (.imul, 1) := by decide +kernel
theorem dX0_has_8 : decode cX0_has 8 = .ok (.iload_n 2, 1) := by decide +kernel
theorem dX0_has_9 : decode cX0_has 9 = .ok (.iadd, 1) := by decide +kernel
theorem dX0_has_10 : decode cX0_has 10 = .ok (.baload, 1) := by decide +kernel
theorem dX0_has_11 : decode cX0_has 11 = .ok (.ireturn, 1) := by decide +kernel
theorem dX0_take_0 : decode cX0_take 0 = .ok (.aload_n 0, 1) := by decide +kernel
theorem dX0_take_1 : decode cX0_take 1 = .ok (.getfield 19, 3) := by decide +kernel
theorem dX0_take_4 : decode cX0_take 4 = .ok (.iconst 0, 1) := by decide +kernel
theorem dX0_take_5 : decode cX0_take 5 = .ok (.invokestatic 25, 3) := by decide +kernel
theorem dX0_take_8 : decode cX0_take 8 = .ok (.aload_n 0, 1) := by decide +kernel
theorem dX0_take_9 : decode cX0_take 9 = .ok (.iconst 0, 1) := by decide +kernel
theorem dX0_take_10 : decode cX0_take 10 = .ok (.putfield 31, 3) := by decide +kernel
theorem dX0_take_13 : decode cX0_take 13 = .ok (.aload_n 0, 1) := by decide +kernel
theorem dX0_take_14 : decode cX0_take 14 = .ok (.aload_n 0, 1) := by decide +kernel
theorem dX0_take_15 : decode cX0_take 15 = .ok (.aload_n 1, 1) := by decide +kernel
theorem dX0_take_16 : decode cX0_take 16 = .ok (.invokevirtual 35, 3) := by decide +kernel
theorem dX0_take_19 : decode cX0_take 19 = .ok (.putfield 39, 3) := by decide +kernel
theorem dX0_take_22 : decode cX0_take 22 = .ok (.iconst 0, 1) := by decide +kernel
theorem dX0_take_23 : decode cX0_take 23 = .ok (.istore_n 2, 1) := by decide +kernel
theorem dX0_take_24 : decode cX0_take 24 = .ok (.iload_n 2, 1) := by decide +kernel
theorem dX0_take_25 : decode cX0_take 25 = .ok (.aload_n 0, 1) := by decide +kernel
theorem dX0_take_26 : decode cX0_take 26 = .ok (.getfield 15, 3) := by decide +kernel
theorem dX0_take_29 : decode cX0_take 29 = .ok (.arraylength, 1) := by decide +kernel
theorem dX0_take_30 : decode cX0_take 30 = .ok (.if_icmp .ge 16, 3) := by decide +kernel
theorem dX0_take_33 : decode cX0_take 33 = .ok (.aload_n 0, 1) := by decide +kernel
theorem dX0_take_34 : decode cX0_take 34 = .ok (.getfield 9, 3) := by decide +kernel
theorem dX0_take_37 : decode cX0_take 37 = .ok (.iload_n 2, 1) := by decide +kernel
theorem dX0_take_38 : decode cX0_take 38 = .ok (.iconst 0, 1) := by decide +kernel
theorem dX0_take_39 : decode cX0_take 39 = .ok (.bastore, 1) := by decide +kernel
theorem dX0_take_40 : decode cX0_take 40 = .ok (.iinc 2 1, 3) := by decide +kernel
theorem dX0_take_43 : decode cX0_take 43 = .ok (.goto (-19), 3) := by decide +kernel
theorem dX0_take_46 : decode cX0_take 46 = .ok (.iconst 0, 1) := by decide +kernel
theorem dX0_take_47 : decode cX0_take 47 = .ok (.istore_n 2, 1) := by decide +kernel
theorem dX0_take_48 : decode cX0_take 48 = .ok (.iload_n 2, 1) := by decide +kernel
theorem dX0_take_49 : decode cX0_take 49 = .ok (.bipush 7, 2) := by decide +kernel
theorem dX0_take_51 : decode cX0_take 51 = .ok (.if_icmp .ge 16, 3) := by decide +kernel
theorem dX0_take_54 : decode cX0_take 54 = .ok (.aload_n 0, 1) := by decide +kernel
theorem dX0_take_55 : decode cX0_take 55 = .ok (.getfield 22, 3) := by decide +kernel
theorem dX0_take_58 : decode cX0_take 58 = .ok (.iload_n 2, 1) := by decide +kernel
theorem dX0_take_59 : decode cX0_take 59 = .ok (.iload_n 2, 1) := by decide +kernel
theorem dX0_take_60 : decode cX0_take 60 = .ok (.iastore, 1) := by decide +kernel
theorem dX0_take_61 : decode cX0_take 61 = .ok (.iinc 2 1, 3) := by decide +kernel
theorem dX0_take_64 : decode cX0_take 64 = .ok (.goto (-16), 3) := by decide +kernel
theorem dX0_take_67 : decode cX0_take 67 = .ok (.aload_n 0, 1) := by decide +kernel
theorem dX0_take_68 : decode cX0_take 68 = .ok (.invokevirtual 42, 3) := by decide +kernel
theorem dX0_take_71 : decode cX0_take 71 = .ok (.istore_n 2, 1) := by decide +kernel
theorem dX0_take_72 : decode cX0_take 72 = .ok (.iconst 0, 1) := by decide +kernel
theorem dX0_take_73 : decode cX0_take 73 = .ok (.istore_n 3, 1) := by decide +kernel
theorem dX0_take_74 : decode cX0_take 74 = .ok (.iload_n 3, 1) := by decide +kernel
theorem dX0_take_75 : decode cX0_take 75 = .ok (.aload_n 0, 1) := by decide +kernel
theorem dX0_take_76 : decode cX0_take 76 = .ok (.getfield 15, 3) := by decide +kernel
theorem dX0_take_79 : decode cX0_take 79 = .ok (.arraylength, 1) := by decide +kernel
theorem dX0_take_80 : decode cX0_take 80 = .ok (.if_icmp .ge 99, 3) := by decide +kernel
theorem dX0_take_83 : decode cX0_take 83 = .ok (.iload_n 2, 1) := by decide +kernel
theorem dX0_take_84 : decode cX0_take 84 = .ok (.ifCond .lt 95, 3) := by decide +kernel
theorem dX0_take_87 : decode cX0_take 87 = .ok (.iload_n 2, 1) := by decide +kernel
theorem dX0_take_88 : decode cX0_take 88 = .ok (.bipush 7, 2) := by decide +kernel
theorem dX0_take_90 : decode cX0_take 90 = .ok (.idiv, 1) := by decide +kernel
theorem dX0_take_91 : decode cX0_take 91 = .ok (.istore 4, 2) := by decide +kernel
theorem dX0_take_93 : decode cX0_take 93 = .ok (.iload_n 2, 1) := by decide +kernel
theorem dX0_take_94 : decode cX0_take 94 = .ok (.bipush 7, 2) := by decide +kernel
theorem dX0_take_96 : decode cX0_take 96 = .ok (.irem, 1) := by decide +kernel
theorem dX0_take_97 : decode cX0_take 97 = .ok (.istore 5, 2) := by decide +kernel
theorem dX0_take_99 : decode cX0_take 99 = .ok (.aload_n 0, 1) := by decide +kernel
theorem dX0_take_100 : decode cX0_take 100 = .ok (.getfield 19, 3) := by decide +kernel
theorem dX0_take_103 : decode cX0_take 103 = .ok (.iload 4, 2) := by decide +kernel
theorem dX0_take_105 : decode cX0_take 105 = .ok (.iaload, 1) := by decide +kernel
theorem dX0_take_106 : decode cX0_take 106 = .ok (.iconst 2, 1) := by decide +kernel
theorem dX0_take_107 : decode cX0_take 107 = .ok (.if_icmp .ge 54, 3) := by decide +kernel
theorem dX0_take_110 : decode cX0_take 110 = .ok (.aload_n 0, 1) := by decide +kernel
theorem dX0_take_111 : decode cX0_take 111 = .ok (.getfield 19, 3) := by decide +kernel
theorem dX0_take_114 : decode cX0_take 114 = .ok (.iload 5, 2) := by decide +kernel
theorem dX0_take_116 : decode cX0_take 116 = .ok (.iaload, 1) := by decide +kernel
theorem dX0_take_117 : decode cX0_take 117 = .ok (.iconst 2, 1) := by decide +kernel
theorem dX0_take_118 : decode cX0_take 118 = .ok (.if_icmp .ge 43, 3) := by decide +kernel
theorem dX0_take_121 : decode cX0_take 121 = .ok (.aload_n 0, 1) := by decide +kernel
theorem dX0_take_122 : decode cX0_take 122 = .ok (.getfield 22, 3) := by decide +kernel
theorem dX0_take_125 : decode cX0_take 125 = .ok (.iload 4, 2) := by decide +kernel
theorem dX0_take_127 : decode cX0_take 127 = .ok (.iaload, 1) := by decide +kernel
theorem dX0_take_128 : decode cX0_take 128 = .ok (.aload_n 0, 1) := by decide +kernel
theorem dX0_take_129 : decode cX0_take 129 = .ok (.getfield 22, 3) := by decide +kernel
theorem dX0_take_132 : decode cX0_take 132 = .ok (.iload 5, 2) := by decide +kernel
theorem dX0_take_134 : decode cX0_take 134 = .ok (.iaload, 1) := by decide +kernel
theorem dX0_take_135 : decode cX0_take 135 = .ok (.if_icmp .eq 26, 3) := by decide +kernel
theorem dX0_take_138 : decode cX0_take 138 = .ok (.aload_n 0, 1) := by decide +kernel
theorem dX0_take_139 : decode cX0_take 139 = .ok (.iload 4, 2) := by decide +kernel
theorem dX0_take_141 : decode cX0_take 141 = .ok (.iload 5, 2) := by decide +kernel
theorem dX0_take_143 : decode cX0_take 143 = .ok (.invokevirtual 46, 3) := by decide +kernel
theorem dX0_take_146 : decode cX0_take 146 = .ok (.aload_n 0, 1) := by decide +kernel
theorem dX0_take_147 : decode cX0_take 147 = .ok (.dup, 1) := by decide +kernel
theorem dX0_take_148 : decode cX0_take 148 = .ok (.getfield 39, 3) := by decide +kernel
theorem dX0_take_151 : decode cX0_take 151 = .ok (.aload_n 0, 1) := by decide +kernel
theorem dX0_take_152 : decode cX0_take 152 = .ok (.getfield 15, 3) := by decide +kernel
theorem dX0_take_155 : decode cX0_take 155 = .ok (.iload_n 2, 1) := by decide +kernel
theorem dX0_take_156 : decode cX0_take 156 = .ok (.iaload, 1) := by decide +kernel
theorem dX0_take_157 : decode cX0_take 157 = .ok (.isub, 1) := by decide +kernel
theorem dX0_take_158 : decode cX0_take 158 = .ok (.putfield 39, 3) := by decide +kernel
theorem dX0_take_161 : decode cX0_take 161 = .ok (.aload_n 0, 1) := by decide +kernel
theorem dX0_take_162 : decode cX0_take 162 = .ok (.getfield 15, 3) := by decide +kernel
theorem dX0_take_165 : decode cX0_take 165 = .ok (.iload_n 2, 1) := by decide +kernel
theorem dX0_take_166 : decode cX0_take 166 = .ok (.iconst 0, 1) := by decide +kernel
theorem dX0_take_167 : decode cX0_take 167 = .ok (.iastore, 1) := by decide +kernel
theorem dX0_take_168 : decode cX0_take 168 = .ok (.aload_n 0, 1) := by decide +kernel
theorem dX0_take_169 : decode cX0_take 169 = .ok (.invokevirtual 42, 3) := by decide +kernel
theorem dX0_take_172 : decode cX0_take 172 = .ok (.istore_n 2, 1) := by decide +kernel
theorem dX0_take_173 : decode cX0_take 173 = .ok (.iinc 3 1, 3) := by decide +kernel
theorem dX0_take_176 : decode cX0_take 176 = .ok (.goto (-102), 3) := by decide +kernel
theorem dX0_take_179 : decode cX0_take 179 = .ok (.return_, 1) := by decide +kernel
theorem dX0_leftByGreatest_0 : decode cX0_leftByGreatest 0 = .ok (.aload_n 0, 1) := by decide +kernel
theorem dX0_leftByGreatest_1 : decode cX0_leftByGreatest 1 = .ok (.aload_n 1, 1) := by decide +kernel
theorem dX0_leftByGreatest_2 : decode cX0_leftByGreatest 2 = .ok (.invokevirtual 35, 3) := by decide +kernel
theorem dX0_leftByGreatest_5 : decode cX0_leftByGreatest 5 = .ok (.istore_n 3, 1) := by decide +kernel
theorem dX0_leftByGreatest_6 : decode cX0_leftByGreatest 6 = .ok (.iconst 0, 1) := by decide +kernel
theorem dX0_leftByGreatest_7 : decode cX0_leftByGreatest 7 = .ok (.istore 4, 2) := by decide +kernel
theorem dX0_leftByGreatest_9 : decode cX0_leftByGreatest 9 = .ok (.iload 4, 2) := by decide +kernel
theorem dX0_leftByGreatest_11 : decode cX0_leftByGreatest 11 = .ok (.iload_n 2, 1) := by decide +kernel
theorem dX0_leftByGreatest_12 : decode cX0_leftByGreatest 12 = .ok (.if_icmp .ge 38, 3) := by decide +kernel
theorem dX0_leftByGreatest_15 : decode cX0_leftByGreatest 15 = .ok (.aload_n 0, 1) := by decide +kernel
theorem dX0_leftByGreatest_16 : decode cX0_leftByGreatest 16 = .ok (.invokevirtual 42, 3) := by decide +kernel
theorem dX0_leftByGreatest_19 : decode cX0_leftByGreatest 19 = .ok (.istore 5, 2) := by decide +kernel
theorem dX0_leftByGreatest_21 : decode cX0_leftByGreatest 21 = .ok (.iload 5, 2) := by decide +kernel
theorem dX0_leftByGreatest_23 : decode cX0_leftByGreatest 23 = .ok (.ifCond .lt 21, 3) := by decide +kernel
theorem dX0_leftByGreatest_26 : decode cX0_leftByGreatest 26 = .ok (.iload_n 3, 1) := by decide +kernel
theorem dX0_leftByGreatest_27 : decode cX0_leftByGreatest 27 = .ok (.aload_n 0, 1) := by decide +kernel
theorem dX0_leftByGreatest_28 : decode cX0_leftByGreatest 28 = .ok (.getfield 15, 3) := by decide +kernel
theorem dX0_leftByGreatest_31 : decode cX0_leftByGreatest 31 = .ok (.iload 5, 2) := by decide +kernel
theorem dX0_leftByGreatest_33 : decode cX0_leftByGreatest 33 = .ok (.iaload, 1) := by decide +kernel
theorem dX0_leftByGreatest_34 : decode cX0_leftByGreatest 34 = .ok (.isub, 1) := by decide +kernel
theorem dX0_leftByGreatest_35 : decode cX0_leftByGreatest 35 = .ok (.istore_n 3, 1) := by decide +kernel
theorem dX0_leftByGreatest_36 : decode cX0_leftByGreatest 36 = .ok (.aload_n 0, 1) := by decide +kernel
theorem dX0_leftByGreatest_37 : decode cX0_leftByGreatest 37 = .ok (.getfield 15, 3) := by decide +kernel
theorem dX0_leftByGreatest_40 : decode cX0_leftByGreatest 40 = .ok (.iload 5, 2) := by decide +kernel
theorem dX0_leftByGreatest_42 : decode cX0_leftByGreatest 42 = .ok (.iconst 0, 1) := by decide +kernel
theorem dX0_leftByGreatest_43 : decode cX0_leftByGreatest 43 = .ok (.iastore, 1) := by decide +kernel
theorem dX0_leftByGreatest_44 : decode cX0_leftByGreatest 44 = .ok (.iinc 4 1, 3) := by decide +kernel
theorem dX0_leftByGreatest_47 : decode cX0_leftByGreatest 47 = .ok (.goto (-38), 3) := by decide +kernel
theorem dX0_leftByGreatest_50 : decode cX0_leftByGreatest 50 = .ok (.iload_n 3, 1) := by decide +kernel
theorem dX0_leftByGreatest_51 : decode cX0_leftByGreatest 51 = .ok (.ireturn, 1) := by decide +kernel
theorem dX0_load_0 : decode cX0_load 0 = .ok (.iconst 0, 1) := by decide +kernel
theorem dX0_load_1 : decode cX0_load 1 = .ok (.istore_n 2, 1) := by decide +kernel
theorem dX0_load_2 : decode cX0_load 2 = .ok (.aload_n 0, 1) := by decide +kernel
theorem dX0_load_3 : decode cX0_load 3 = .ok (.getfield 15, 3) := by decide +kernel
theorem dX0_load_6 : decode cX0_load 6 = .ok (.iconst 0, 1) := by decide +kernel
theorem dX0_load_7 : decode cX0_load 7 = .ok (.invokestatic 25, 3) := by decide +kernel
theorem dX0_load_10 : decode cX0_load 10 = .ok (.iconst 0, 1) := by decide +kernel
theorem dX0_load_11 : decode cX0_load 11 = .ok (.istore_n 3, 1) := by decide +kernel
theorem dX0_load_12 : decode cX0_load 12 = .ok (.iload_n 3, 1) := by decide +kernel
theorem dX0_load_13 : decode cX0_load 13 = .ok (.bipush 7, 2) := by decide +kernel
theorem dX0_load_15 : decode cX0_load 15 = .ok (.if_icmp .ge 54, 3) := by decide +kernel
theorem dX0_load_18 : decode cX0_load 18 = .ok (.iload_n 3, 1) := by decide +kernel
theorem dX0_load_19 : decode cX0_load 19 = .ok (.iconst 1, 1) := by decide +kernel
theorem dX0_load_20 : decode cX0_load 20 = .ok (.iadd, 1) := by decide +kernel
theorem dX0_load_21 : decode cX0_load 21 = .ok (.istore 4, 2) := by decide +kernel
theorem dX0_load_23 : decode cX0_load 23 = .ok (.iload 4, 2) := by decide +kernel
theorem dX0_load_25 : decode cX0_load 25 = .ok (.bipush 7, 2) := by decide +kernel
theorem dX0_load_27 : decode cX0_load 27 = .ok (.if_icmp .ge 36, 3) := by decide +kernel
theorem dX0_load_30 : decode cX0_load 30 = .ok (.iload_n 3, 1) := by decide +kernel
theorem dX0_load_31 : decode cX0_load 31 = .ok (.bipush 7, 2) := by decide +kernel
theorem dX0_load_33 : decode cX0_load 33 = .ok (.imul, 1) := by decide +kernel
theorem dX0_load_34 : decode cX0_load 34 = .ok (.iload 4, 2) := by decide +kernel
theorem dX0_load_36 : decode cX0_load 36 = .ok (.iadd, 1) := by decide +kernel
theorem dX0_load_37 : decode cX0_load 37 = .ok (.istore 5, 2) := by decide +kernel
theorem dX0_load_39 : decode cX0_load 39 = .ok (.aload_n 0, 1) := by decide +kernel
theorem dX0_load_40 : decode cX0_load 40 = .ok (.getfield 15, 3) := by decide +kernel
theorem dX0_load_43 : decode cX0_load 43 = .ok (.iload 5, 2) := by decide +kernel
theorem dX0_load_45 : decode cX0_load 45 = .ok (.aload_n 1, 1) := by decide +kernel
theorem dX0_load_46 : decode cX0_load 46 = .ok (.iload 5, 2) := by decide +kernel
theorem dX0_load_48 : decode cX0_load 48 = .ok (.iaload, 1) := by decide +kernel
theorem dX0_load_49 : decode cX0_load 49 = .ok (.iastore, 1) := by decide +kernel
theorem dX0_load_50 : decode cX0_load 50 = .ok (.iload_n 2, 1) := by decide +kernel
theorem dX0_load_51 : decode cX0_load 51 = .ok (.aload_n 1, 1) := by decide +kernel
theorem dX0_load_52 : decode cX0_load 52 = .ok (.iload 5, 2) := by decide +kernel
theorem dX0_load_54 : decode cX0_load 54 = .ok (.iaload, 1) := by decide +kernel
theorem dX0_load_55 : decode cX0_load 55 = .ok (.iadd, 1) := by decide +kernel
theorem dX0_load_56 : decode cX0_load 56 = .ok (.istore_n 2, 1) := by decide +kernel
theorem dX0_load_57 : decode cX0_load 57 = .ok (.iinc 4 1, 3) := by decide +kernel
theorem dX0_load_60 : decode cX0_load 60 = .ok (.goto (-37), 3) := by decide +kernel
theorem dX0_load_63 : decode cX0_load 63 = .ok (.iinc 3 1, 3) := by decide +kernel
theorem dX0_load_66 : decode cX0_load 66 = .ok (.goto (-54), 3) := by decide +kernel
theorem dX0_load_69 : decode cX0_load 69 = .ok (.iload_n 2, 1) := by decide +kernel
theorem dX0_load_70 : decode cX0_load 70 = .ok (.ireturn, 1) := by decide +kernel
theorem dX0_greatest_0 : decode cX0_greatest 0 = .ok (.iconst (-1), 1) := by decide +kernel
theorem dX0_greatest_1 : decode cX0_greatest 1 = .ok (.istore_n 1, 1) := by decide +kernel
theorem dX0_greatest_2 : decode cX0_greatest 2 = .ok (.iconst 0, 1) := by decide +kernel
theorem dX0_greatest_3 : decode cX0_greatest 3 = .ok (.istore_n 2, 1) := by decide +kernel
theorem dX0_greatest_4 : decode cX0_greatest 4 = .ok (.iconst 0, 1) := by decide +kernel
theorem dX0_greatest_5 : decode cX0_greatest 5 = .ok (.istore_n 3, 1) := by decide +kernel
theorem dX0_greatest_6 : decode cX0_greatest 6 = .ok (.iload_n 3, 1) := by decide +kernel
theorem dX0_greatest_7 : decode cX0_greatest 7 = .ok (.aload_n 0, 1) := by decide +kernel
theorem dX0_greatest_8 : decode cX0_greatest 8 = .ok (.getfield 15, 3) := by decide +kernel
theorem dX0_greatest_11 : decode cX0_greatest 11 = .ok (.arraylength, 1) := by decide +kernel
theorem dX0_greatest_12 : decode cX0_greatest 12 = .ok (.if_icmp .ge 28, 3) := by decide +kernel
theorem dX0_greatest_15 : decode cX0_greatest 15 = .ok (.aload_n 0, 1) := by decide +kernel
theorem dX0_greatest_16 : decode cX0_greatest 16 = .ok (.getfield 15, 3) := by decide +kernel
theorem dX0_greatest_19 : decode cX0_greatest 19 = .ok (.iload_n 3, 1) := by decide +kernel
theorem dX0_greatest_20 : decode cX0_greatest 20 = .ok (.iaload, 1) := by decide +kernel
theorem dX0_greatest_21 : decode cX0_greatest 21 = .ok (.iload_n 2, 1) := by decide +kernel
theorem dX0_greatest_22 : decode cX0_greatest 22 = .ok (.if_icmp .le 12, 3) := by decide +kernel
theorem dX0_greatest_25 : decode cX0_greatest 25 = .ok (.aload_n 0, 1) := by decide +kernel
theorem dX0_greatest_26 : decode cX0_greatest 26 = .ok (.getfield 15, 3) := by decide +kernel
theorem dX0_greatest_29 : decode cX0_greatest 29 = .ok (.iload_n 3, 1) := by decide +kernel
theorem dX0_greatest_30 : decode cX0_greatest 30 = .ok (.iaload, 1) := by decide +kernel
theorem dX0_greatest_31 : decode cX0_greatest 31 = .ok (.istore_n 2, 1) := by decide +kernel
theorem dX0_greatest_32 : decode cX0_greatest 32 = .ok (.iload_n 3, 1) := by decide +kernel
theorem dX0_greatest_33 : decode cX0_greatest 33 = .ok (.istore_n 1, 1) := by decide +kernel
theorem dX0_greatest_34 : decode cX0_greatest 34 = .ok (.iinc 3 1, 3) := by decide +kernel
theorem dX0_greatest_37 : decode cX0_greatest 37 = .ok (.goto (-31), 3) := by decide +kernel
theorem dX0_greatest_40 : decode cX0_greatest 40 = .ok (.iload_n 1, 1) := by decide +kernel
theorem dX0_greatest_41 : decode cX0_greatest 41 = .ok (.ireturn, 1) := by decide +kernel
theorem dX0_join_0 : decode cX0_join 0 = .ok (.aload_n 0, 1) := by decide +kernel
theorem dX0_join_1 : decode cX0_join 1 = .ok (.getfield 9, 3) := by decide +kernel
theorem dX0_join_4 : decode cX0_join 4 = .ok (.iload_n 1, 1) := by decide +kernel
theorem dX0_join_5 : decode cX0_join 5 = .ok (.bipush 7, 2) := by decide +kernel
theorem dX0_join_7 : decode cX0_join 7 = .ok (.imul, 1) := by decide +kernel
theorem dX0_join_8 : decode cX0_join 8 = .ok (.iload_n 2, 1) := by decide +kernel
theorem dX0_join_9 : decode cX0_join 9 = .ok (.iadd, 1) := by decide +kernel
theorem dX0_join_10 : decode cX0_join 10 = .ok (.iconst 1, 1) := by decide +kernel
theorem dX0_join_11 : decode cX0_join 11 = .ok (.bastore, 1) := by decide +kernel
theorem dX0_join_12 : decode cX0_join 12 = .ok (.aload_n 0, 1) := by decide +kernel
theorem dX0_join_13 : decode cX0_join 13 = .ok (.getfield 9, 3) := by decide +kernel
theorem dX0_join_16 : decode cX0_join 16 = .ok (.iload_n 2, 1) := by decide +kernel
theorem dX0_join_17 : decode cX0_join 17 = .ok (.bipush 7, 2) := by decide +kernel
theorem dX0_join_19 : decode cX0_join 19 = .ok (.imul, 1) := by decide +kernel
theorem dX0_join_20 : decode cX0_join 20 = .ok (.iload_n 1, 1) := by decide +kernel
theorem dX0_join_21 : decode cX0_join 21 = .ok (.iadd, 1) := by decide +kernel
theorem dX0_join_22 : decode cX0_join 22 = .ok (.iconst 1, 1) := by decide +kernel
theorem dX0_join_23 : decode cX0_join 23 = .ok (.bastore, 1) := by decide +kernel
theorem dX0_join_24 : decode cX0_join 24 = .ok (.aload_n 0, 1) := by decide +kernel
theorem dX0_join_25 : decode cX0_join 25 = .ok (.getfield 19, 3) := by decide +kernel
theorem dX0_join_28 : decode cX0_join 28 = .ok (.iload_n 1, 1) := by decide +kernel
theorem dX0_join_29 : decode cX0_join 29 = .ok (.dup2, 1) := by decide +kernel
theorem dX0_join_30 : decode cX0_join 30 = .ok (.iaload, 1) := by decide +kernel
theorem dX0_join_31 : decode cX0_join 31 = .ok (.iconst 1, 1) := by decide +kernel
theorem dX0_join_32 : decode cX0_join 32 = .ok (.iadd, 1) := by decide +kernel
theorem dX0_join_33 : decode cX0_join 33 = .ok (.iastore, 1) := by decide +kernel
theorem dX0_join_34 : decode cX0_join 34 = .ok (.aload_n 0, 1) := by decide +kernel
theorem dX0_join_35 : decode cX0_join 35 = .ok (.getfield 19, 3) := by decide +kernel
theorem dX0_join_38 : decode cX0_join 38 = .ok (.iload_n 2, 1) := by decide +kernel
theorem dX0_join_39 : decode cX0_join 39 = .ok (.dup2, 1) := by decide +kernel
theorem dX0_join_40 : decode cX0_join 40 = .ok (.iaload, 1) := by decide +kernel
theorem dX0_join_41 : decode cX0_join 41 = .ok (.iconst 1, 1) := by decide +kernel
theorem dX0_join_42 : decode cX0_join 42 = .ok (.iadd, 1) := by decide +kernel
theorem dX0_join_43 : decode cX0_join 43 = .ok (.iastore, 1) := by decide +kernel
theorem dX0_join_44 : decode cX0_join 44 = .ok (.aload_n 0, 1) := by decide +kernel
theorem dX0_join_45 : decode cX0_join 45 = .ok (.dup, 1) := by decide +kernel
theorem dX0_join_46 : decode cX0_join 46 = .ok (.getfield 31, 3) := by decide +kernel
theorem dX0_join_49 : decode cX0_join 49 = .ok (.iconst 1, 1) := by decide +kernel
theorem dX0_join_50 : decode cX0_join 50 = .ok (.iadd, 1) := by decide +kernel
theorem dX0_join_51 : decode cX0_join 51 = .ok (.putfield 31, 3) := by decide +kernel
theorem dX0_join_54 : decode cX0_join 54 = .ok (.aload_n 0, 1) := by decide +kernel
theorem dX0_join_55 : decode cX0_join 55 = .ok (.getfield 22, 3) := by decide +kernel
theorem dX0_join_58 : decode cX0_join 58 = .ok (.iload_n 2, 1) := by decide +kernel
theorem dX0_join_59 : decode cX0_join 59 = .ok (.iaload, 1) := by decide +kernel
theorem dX0_join_60 : decode cX0_join 60 = .ok (.istore_n 3, 1) := by decide +kernel
theorem dX0_join_61 : decode cX0_join 61 = .ok (.iconst 0, 1) := by decide +kernel
theorem dX0_join_62 : decode cX0_join 62 = .ok (.istore 4, 2) := by decide +kernel
theorem dX0_join_64 : decode cX0_join 64 = .ok (.iload 4, 2) := by decide +kernel
theorem dX0_join_66 : decode cX0_join 66 = .ok (.bipush 7, 2) := by decide +kernel
theorem dX0_join_68 : decode cX0_join 68 = .ok (.if_icmp .ge 33, 3) := by decide +kernel
theorem dX0_join_71 : decode cX0_join 71 = .ok (.aload_n 0, 1) := by decide +kernel
theorem dX0_join_72 : decode cX0_join 72 = .ok (.getfield 22, 3) := by decide +kernel
theorem dX0_join_75 : decode cX0_join 75 = .ok (.iload 4, 2) := by decide +kernel
theorem dX0_join_77 : decode cX0_join 77 = .ok (.iaload, 1) := by decide +kernel
theorem dX0_join_78 : decode cX0_join 78 = .ok (.iload_n 3, 1) := by decide +kernel
theorem dX0_join_79 : decode cX0_join 79 = .ok (.if_icmp .ne 16, 3) := by decide +kernel
theorem dX0_join_82 : decode cX0_join 82 = .ok (.aload_n 0, 1) := by decide +kernel
theorem dX0_join_83 : decode cX0_join 83 = .ok (.getfield 22, 3) := by decide +kernel
theorem dX0_join_86 : decode cX0_join 86 = .ok (.iload 4, 2) := by decide +kernel
theorem dX0_join_88 : decode cX0_join 88 = .ok (.aload_n 0, 1) := by decide +kernel
theorem dX0_join_89 : decode cX0_join 89 = .ok (.getfield 22, 3) := by decide +kernel
theorem dX0_join_92 : decode cX0_join 92 = .ok (.iload_n 1, 1) := by decide +kernel
theorem dX0_join_93 : decode cX0_join 93 = .ok (.iaload, 1) := by decide +kernel
theorem dX0_join_94 : decode cX0_join 94 = .ok (.iastore, 1) := by decide +kernel
theorem dX0_join_95 : decode cX0_join 95 = .ok (.iinc 4 1, 3) := by decide +kernel
theorem dX0_join_98 : decode cX0_join 98 = .ok (.goto (-34), 3) := by decide +kernel
theorem dX0_join_101 : decode cX0_join 101 = .ok (.return_, 1) := by decide +kernel
theorem dX1_init_0 : decode cX1_init 0 = .ok (.aload_n 0, 1) := by decide +kernel
theorem dX1_init_1 : decode cX1_init 1 = .ok (.invokespecial 5, 3) := by decide +kernel
theorem dX1_init_4 : decode cX1_init 4 = .ok (.aload_n 0, 1) := by decide +kernel
theorem dX1_init_5 : decode cX1_init 5 = .ok (.bipush 8, 2) := by decide +kernel
theorem dX1_init_7 : decode cX1_init 7 = .ok (.newarray .int, 2) := by decide +kernel
theorem dX1_init_9 : decode cX1_init 9 = .ok (.putfield 11, 3) := by decide +kernel
theorem dX1_init_12 : decode cX1_init 12 = .ok (.aload_n 0, 1) := by decide +kernel
theorem dX1_init_13 : decode cX1_init 13 = .ok (.bipush 7, 2) := by decide +kernel
theorem dX1_init_15 : decode cX1_init 15 = .ok (.newarray .int, 2) := by decide +kernel
theorem dX1_init_17 : decode cX1_init 17 = .ok (.putfield 15, 3) := by decide +kernel
theorem dX1_init_20 : decode cX1_init 20 = .ok (.aload_n 0, 1) := by decide +kernel
theorem dX1_init_21 : decode cX1_init 21 = .ok (.bipush 7, 2) := by decide +kernel
theorem dX1_init_23 : decode cX1_init 23 = .ok (.newarray .int, 2) := by decide +kernel
theorem dX1_init_25 : decode cX1_init 25 = .ok (.putfield 18, 3) := by decide +kernel
theorem dX1_init_28 : decode cX1_init 28 = .ok (.aload_n 0, 1) := by decide +kernel
theorem dX1_init_29 : decode cX1_init 29 = .ok (.aload_n 1, 1) := by decide +kernel
theorem dX1_init_30 : decode cX1_init 30 = .ok (.putfield 21, 3) := by decide +kernel
theorem dX1_init_33 : decode cX1_init 33 = .ok (.aload_n 0, 1) := by decide +kernel
theorem dX1_init_34 : decode cX1_init 34 = .ok (.getfield 11, 3) := by decide +kernel
theorem dX1_init_37 : decode cX1_init 37 = .ok (.bipush 7, 2) := by decide +kernel
theorem dX1_init_39 : decode cX1_init 39 = .ok (.invokestatic 27, 3) := by decide +kernel
theorem dX1_init_42 : decode cX1_init 42 = .ok (.return_, 1) := by decide +kernel
theorem dX1_leastBelow_0 : decode cX1_leastBelow 0 = .ok (.aload_n 0, 1) := by decide +kernel
theorem dX1_leastBelow_1 : decode cX1_leastBelow 1 = .ok (.getfield 21, 3) := by decide +kernel
theorem dX1_leastBelow_4 : decode cX1_leastBelow 4 = .ok (.aload_n 2, 1) := by decide +kernel
theorem dX1_leastBelow_5 : decode cX1_leastBelow 5 = .ok (.iload_n 3, 1) := by decide +kernel
theorem dX1_leastBelow_6 : decode cX1_leastBelow 6 = .ok (.iload 4, 2) := by decide +kernel
theorem dX1_leastBelow_8 : decode cX1_leastBelow 8 = .ok (.iconst 0, 1) := by decide +kernel
theorem dX1_leastBelow_9 : decode cX1_leastBelow 9 = .ok (.invokevirtual 33, 3) := by decide +kernel
theorem dX1_leastBelow_12 : decode cX1_leastBelow 12 = .ok (.aload_n 0, 1) := by decide +kernel
theorem dX1_leastBelow_13 : decode cX1_leastBelow 13 = .ok (.iconst 0, 1) := by decide +kernel
theorem dX1_leastBelow_14 : decode cX1_leastBelow 14 = .ok (.putfield 37, 3) := by decide +kernel
theorem dX1_leastBelow_17 : decode cX1_leastBelow 17 = .ok (.iconst 0, 1) := by decide +kernel
theorem dX1_leastBelow_18 : decode cX1_leastBelow 18 = .ok (.istore 5, 2) := by decide +kernel
theorem dX1_leastBelow_20 : decode cX1_leastBelow 20 = .ok (.iload 5, 2) := by decide +kernel
theorem dX1_leastBelow_22 : decode cX1_leastBelow 22 = .ok (.bipush 7, 2) := by decide +kernel
theorem dX1_leastBelow_24 : decode cX1_leastBelow 24 = .ok (.if_icmp .ge 39, 3) := by decide +kernel
theorem dX1_leastBelow_27 : decode cX1_leastBelow 27 = .ok (.iload_n 3, 1) := by decide +kernel
theorem dX1_leastBelow_28 : decode cX1_leastBelow 28 = .ok (.iload 5, 2) := by decide +kernel
theorem dX1_leastBelow_30 : decode cX1_leastBelow 30 = .ok (.ishr, 1) := by decide +kernel
theorem dX1_leastBelow_31 : decode cX1_leastBelow 31 = .ok (.iconst 1, 1) := by decide +kernel
theorem dX1_leastBelow_32 : decode cX1_leastBelow 32 = .ok (.iand, 1) := by decide +kernel
theorem dX1_leastBelow_33 : decode cX1_leastBelow 33 = .ok (.ifCond .eq 24, 3) := by decide +kernel
theorem dX1_leastBelow_36 : decode cX1_leastBelow 36 = .ok (.aload_n 0, 1) := by decide +kernel
theorem dX1_leastBelow_37 : decode cX1_leastBelow 37 = .ok (.getfield 15, 3) := by decide +kernel
theorem dX1_leastBelow_40 : decode cX1_leastBelow 40 = .ok (.aload_n 0, 1) := by decide +kernel
theorem dX1_leastBelow_41 : decode cX1_leastBelow 41 = .ok (.getfield 37, 3) := by decide +kernel
theorem dX1_leastBelow_44 : decode cX1_leastBelow 44 = .ok (.iload 5, 2) := by decide +kernel
theorem dX1_leastBelow_46 : decode cX1_leastBelow 46 = .ok (.iastore, 1) := by decide +kernel
theorem dX1_leastBelow_47 : decode cX1_leastBelow 47 = .ok (.aload_n 0, 1) := by decide +kernel
theorem dX1_leastBelow_48 : decode cX1_leastBelow 48 = .ok (.dup, 1) := by decide +kernel
theorem dX1_leastBelow_49 : decode cX1_leastBelow 49 = .ok (.getfield 37, 3) := by decide +kernel
theorem dX1_leastBelow_52 : decode cX1_leastBelow 52 = .ok (.iconst 1, 1) := by decide +kernel
theorem dX1_leastBelow_53 : decode cX1_leastBelow 53 = .ok (.iadd, 1) := by decide +kernel
theorem dX1_leastBelow_54 : decode cX1_leastBelow 54 = .ok (.putfield 37, 3) := by decide +kernel
theorem dX1_leastBelow_57 : decode cX1_leastBelow 57 = .ok (.iinc 5 1, 3) := by decide +kernel
theorem dX1_leastBelow_60 : decode cX1_leastBelow 60 = .ok (.goto (-40), 3) := by decide +kernel
theorem dX1_leastBelow_63 : decode cX1_leastBelow 63 = .ok (.aload_n 0, 1) := by decide +kernel
theorem dX1_leastBelow_64 : decode cX1_leastBelow 64 = .ok (.iload_n 1, 1) := by decide +kernel
theorem dX1_leastBelow_65 : decode cX1_leastBelow 65 = .ok (.iconst 1, 1) := by decide +kernel
theorem dX1_leastBelow_66 : decode cX1_leastBelow 66 = .ok (.isub, 1) := by decide +kernel
theorem dX1_leastBelow_67 : decode cX1_leastBelow 67 = .ok (.putfield 41, 3) := by decide +kernel
theorem dX1_leastBelow_70 : decode cX1_leastBelow 70 = .ok (.aload_n 0, 1) := by decide +kernel
theorem dX1_leastBelow_71 : decode cX1_leastBelow 71 = .ok (.getfield 37, 3) := by decide +kernel
theorem dX1_leastBelow_74 : decode cX1_leastBelow 74 = .ok (.ifCond .le 14, 3) := by decide +kernel
theorem dX1_leastBelow_77 : decode cX1_leastBelow 77 = .ok (.aload_n 0, 1) := by decide +kernel
theorem dX1_leastBelow_78 : decode cX1_leastBelow 78 = .ok (.invokevirtual 44, 3) := by decide +kernel
theorem dX1_leastBelow_81 : decode cX1_leastBelow 81 = .ok (.aload_n 0, 1) := by decide +kernel
theorem dX1_leastBelow_82 : decode cX1_leastBelow 82 = .ok (.iconst 0, 1) := by decide +kernel
theorem dX1_leastBelow_83 : decode cX1_leastBelow 83 = .ok (.iconst 0, 1) := by decide +kernel
theorem dX1_leastBelow_84 : decode cX1_leastBelow 84 = .ok (.iconst 0, 1) := by decide +kernel
theorem dX1_leastBelow_85 : decode cX1_leastBelow 85 = .ok (.invokevirtual 47, 3) := by decide +kernel
theorem dX1_leastBelow_88 : decode cX1_leastBelow 88 = .ok (.aload_n 0, 1) := by decide +kernel
theorem dX1_leastBelow_89 : decode cX1_leastBelow 89 = .ok (.getfield 41, 3) := by decide +kernel
theorem dX1_leastBelow_92 : decode cX1_leastBelow 92 = .ok (.iconst 1, 1) := by decide +kernel
theorem dX1_leastBelow_93 : decode cX1_leastBelow 93 = .ok (.iadd, 1) := by decide +kernel
theorem dX1_leastBelow_94 : decode cX1_leastBelow 94 = .ok (.ireturn, 1) := by decide +kernel
theorem dX1_findTwins_0 : decode cX1_findTwins 0 = .ok (.iconst 0, 1) := by decide +kernel
theorem dX1_findTwins_1 : decode cX1_findTwins 1 = .ok (.istore_n 1, 1) := by decide +kernel
theorem dX1_findTwins_2 : decode cX1_findTwins 2 = .ok (.iload_n 1, 1) := by decide +kernel
theorem dX1_findTwins_3 : decode cX1_findTwins 3 = .ok (.aload_n 0, 1) := by decide +kernel
theorem dX1_findTwins_4 : decode cX1_findTwins 4 = .ok (.getfield 37, 3) := by decide +kernel
theorem dX1_findTwins_7 : decode cX1_findTwins 7 = .ok (.if_icmp .ge 57, 3) := by decide +kernel
theorem dX1_findTwins_10 : decode cX1_findTwins 10 = .ok (.aload_n 0, 1) := by decide +kernel
theorem dX1_findTwins_11 : decode cX1_findTwins 11 = .ok (.getfield 18, 3) := by decide +kernel
theorem dX1_findTwins_14 : decode cX1_findTwins 14 = .ok (.iload_n 1, 1) := by decide +kernel
theorem dX1_findTwins_15 : decode cX1_findTwins 15 = .ok (.iconst 0, 1) := by decide +kernel
theorem dX1_findTwins_16 : decode cX1_findTwins 16 = .ok (.iastore, 1) := by decide +kernel
theorem dX1_findTwins_17 : decode cX1_findTwins 17 = .ok (.iconst 0, 1) := by decide +kernel
theorem dX1_findTwins_18 : decode cX1_findTwins 18 = .ok (.istore_n 2, 1) := by decide +kernel
theorem dX1_findTwins_19 : decode cX1_findTwins 19 = .ok (.iload_n 2, 1) := by decide +kernel
theorem dX1_findTwins_20 : decode cX1_findTwins 20 = .ok (.iload_n 1, 1) := by decide +kernel
theorem dX1_findTwins_21 : decode cX1_findTwins 21 = .ok (.if_icmp .ge 37, 3) := by decide +kernel
theorem dX1_findTwins_24 : decode cX1_findTwins 24 = .ok (.aload_n 0, 1) := by decide +kernel
theorem dX1_findTwins_25 : decode cX1_findTwins 25 = .ok (.getfield 21, 3) := by decide +kernel
theorem dX1_findTwins_28 : decode cX1_findTwins 28 = .ok (.iload_n 2, 1) := by decide +kernel
theorem dX1_findTwins_29 : decode cX1_findTwins 29 = .ok (.iload_n 1, 1) := by decide +kernel
theorem dX1_findTwins_30 : decode cX1_findTwins 30 = .ok (.aload_n 0, 1) := by decide +kernel
theorem dX1_findTwins_31 : decode cX1_findTwins 31 = .ok (.getfield 37, 3) := by decide +kernel
theorem dX1_findTwins_34 : decode cX1_findTwins 34 = .ok (.invokevirtual 51, 3) := by decide +kernel
theorem dX1_findTwins_37 : decode cX1_findTwins 37 = .ok (.ifCond .eq 15, 3) := by decide +kernel
theorem dX1_findTwins_40 : decode cX1_findTwins 40 = .ok (.aload_n 0, 1) := by decide +kernel
theorem dX1_findTwins_41 : decode cX1_findTwins 41 = .ok (.getfield 18, 3) := by decide +kernel
theorem dX1_findTwins_44 : decode cX1_findTwins 44 = .ok (.iload_n 1, 1) := by decide +kernel
theorem dX1_findTwins_45 : decode cX1_findTwins 45 = .ok (.dup2, 1) := by decide +kernel
theorem dX1_findTwins_46 : decode cX1_findTwins 46 = .ok (.iaload, 1) := by decide +kernel
theorem dX1_findTwins_47 : decode cX1_findTwins 47 = .ok (.iconst 1, 1) := by decide +kernel
theorem dX1_findTwins_48 : decode cX1_findTwins 48 = .ok (.iload_n 2, 1) := by decide +kernel
theorem dX1_findTwins_49 : decode cX1_findTwins 49 = .ok (.ishl, 1) := by decide +kernel
theorem dX1_findTwins_50 : decode cX1_findTwins 50 = .ok (.ior, 1) := by decide +kernel
theorem dX1_findTwins_51 : decode cX1_findTwins 51 = .ok (.iastore, 1) := by decide +kernel
theorem dX1_findTwins_52 : decode cX1_findTwins 52 = .ok (.iinc 2 1, 3) := by decide +kernel
theorem dX1_findTwins_55 : decode cX1_findTwins 55 = .ok (.goto (-36), 3) := by decide +kernel
theorem dX1_findTwins_58 : decode cX1_findTwins 58 = .ok (.iinc 1 1, 3) := by decide +kernel
theorem dX1_findTwins_61 : decode cX1_findTwins 61 = .ok (.goto (-59), 3) := by decide +kernel
theorem dX1_findTwins_64 : decode cX1_findTwins 64 = .ok (.return_, 1) := by decide +kernel
theorem dX1_lay_0 : decode cX1_lay 0 = .ok (.aload_n 0, 1) := by decide +kernel
theorem dX1_lay_1 : decode cX1_lay 1 = .ok (.getfield 15, 3) := by decide +kernel
theorem dX1_lay_4 : decode cX1_lay 4 = .ok (.iload_n 1, 1) := by decide +kernel
theorem dX1_lay_5 : decode cX1_lay 5 = .ok (.iaload, 1) := by decide +kernel
theorem dX1_lay_6 : decode cX1_lay 6 = .ok (.istore 4, 2) := by decide +kernel
theorem dX1_lay_8 : decode cX1_lay 8 = .ok (.iload_n 1, 1) := by decide +kernel
theorem dX1_lay_9 : decode cX1_lay 9 = .ok (.ifCond .ne 14, 3) := by decide +kernel
theorem dX1_lay_12 : decode cX1_lay 12 = .ok (.aload_n 0, 1) := by decide +kernel
theorem dX1_lay_13 : decode cX1_lay 13 = .ok (.getfield 37, 3) := by decide +kernel
theorem dX1_lay_16 : decode cX1_lay 16 = .ok (.iconst 1, 1) := by decide +kernel
theorem dX1_lay_17 : decode cX1_lay 17 = .ok (.iadd, 1) := by decide +kernel
theorem dX1_lay_18 : decode cX1_lay 18 = .ok (.iconst 2, 1) := by decide +kernel
theorem dX1_lay_19 : decode cX1_lay 19 = .ok (.idiv, 1) := by decide +kernel
theorem dX1_lay_20 : decode cX1_lay 20 = .ok (.goto 7, 3) := by decide +kernel
theorem dX1_lay_23 : decode cX1_lay 23 = .ok (.aload_n 0, 1) := by decide +kernel
theorem dX1_lay_24 : decode cX1_lay 24 = .ok (.getfield 37, 3) := by decide +kernel
theorem dX1_lay_27 : decode cX1_lay 27 = .ok (.istore 5, 2) := by decide +kernel
theorem dX1_lay_29 : decode cX1_lay 29 = .ok (.iload_n 1, 1) := by decide +kernel
theorem dX1_lay_30 : decode cX1_lay 30 = .ok (.iconst 2, 1) := by decide +kernel
theorem dX1_lay_31 : decode cX1_lay 31 = .ok (.iadd, 1) := by decide +kernel
theorem dX1_lay_32 : decode cX1_lay 32 = .ok (.aload_n 0, 1) := by decide +kernel
theorem dX1_lay_33 : decode cX1_lay 33 = .ok (.getfield 37, 3) := by decide +kernel
theorem dX1_lay_36 : decode cX1_lay 36 = .ok (.if_icmp .eq 7, 3) := by decide +kernel
theorem dX1_lay_39 : decode cX1_lay 39 = .ok (.iconst 1, 1) := by decide +kernel
theorem dX1_lay_40 : decode cX1_lay 40 = .ok (.goto 4, 3) := by decide +kernel
theorem dX1_lay_43 : decode cX1_lay 43 = .ok (.iconst 0, 1) := by decide +kernel
theorem dX1_lay_44 : decode cX1_lay 44 = .ok (.istore 6, 2) := by decide +kernel
theorem dX1_lay_46 : decode cX1_lay 46 = .ok (.iconst 0, 1) := by decide +kernel
theorem dX1_lay_47 : decode cX1_lay 47 = .ok (.istore 7, 2) := by decide +kernel
theorem dX1_lay_49 : decode cX1_lay 49 = .ok (.iload 7, 2) := by decide +kernel
theorem dX1_lay_51 : decode cX1_lay 51 = .ok (.iload 5, 2) := by decide +kernel
theorem dX1_lay_53 : decode cX1_lay 53 = .ok (.if_icmp .ge 151, 3) := by decide +kernel
theorem dX1_lay_56 : decode cX1_lay 56 = .ok (.iload_n 2, 1) := by decide +kernel
theorem dX1_lay_57 : decode cX1_lay 57 = .ok (.iload 7, 2) := by decide +kernel
theorem dX1_lay_59 : decode cX1_lay 59 = .ok (.ishr, 1) := by decide +kernel
theorem dX1_lay_60 : decode cX1_lay 60 = .ok (.iconst 1, 1) := by decide +kernel
theorem dX1_lay_61 : decode cX1_lay 61 = .ok (.iand, 1) := by decide +kernel
theorem dX1_lay_62 : decode cX1_lay 62 = .ok (.ifCond .ne 136, 3) := by decide +kernel
theorem dX1_lay_65 : decode cX1_lay 65 = .ok (.aload_n 0, 1) := by decide +kernel
theorem dX1_lay_66 : decode cX1_lay 66 = .ok (.getfield 18, 3) := by decide +kernel
theorem dX1_lay_69 : decode cX1_lay 69 = .ok (.iload 7, 2) := by decide +kernel
theorem dX1_lay_71 : decode cX1_lay 71 = .ok (.iaload, 1) := by decide +kernel
theorem dX1_lay_72 : decode cX1_lay 72 = .ok (.iload_n 2, 1) := by decide +kernel
theorem dX1_lay_73 : decode cX1_lay 73 = .ok (.iconst (-1), 1) := by decide +kernel
theorem dX1_lay_74 : decode cX1_lay 74 = .ok (.ixor, 1) := by decide +kernel
theorem dX1_lay_75 : decode cX1_lay 75 = .ok (.iand, 1) := by decide +kernel
theorem dX1_lay_76 : decode cX1_lay 76 = .ok (.ifCond .eq 6, 3) := by decide +kernel
theorem dX1_lay_79 : decode cX1_lay 79 = .ok (.goto 119, 3) := by decide +kernel
theorem dX1_lay_82 : decode cX1_lay 82 = .ok (.aload_n 0, 1) := by decide +kernel
theorem dX1_lay_83 : decode cX1_lay 83 = .ok (.getfield 11, 3) := by decide +kernel
theorem dX1_lay_86 : decode cX1_lay 86 = .ok (.iload 4, 2) := by decide +kernel
theorem dX1_lay_88 : decode cX1_lay 88 = .ok (.iload 7, 2) := by decide +kernel
theorem dX1_lay_90 : decode cX1_lay 90 = .ok (.iastore, 1) := by decide +kernel
theorem dX1_lay_91 : decode cX1_lay 91 = .ok (.iload_n 3, 1) := by decide +kernel
theorem dX1_lay_92 : decode cX1_lay 92 = .ok (.aload_n 0, 1) := by decide +kernel
theorem dX1_lay_93 : decode cX1_lay 93 = .ok (.getfield 21, 3) := by decide +kernel
theorem dX1_lay_96 : decode cX1_lay 96 = .ok (.iload 4, 2) := by decide +kernel
theorem dX1_lay_98 : decode cX1_lay 98 = .ok (.aload_n 0, 1) := by decide +kernel
theorem dX1_lay_99 : decode cX1_lay 99 = .ok (.getfield 11, 3) := by decide +kernel
theorem dX1_lay_102 : decode cX1_lay 102 = .ok (.invokevirtual 55, 3) := by decide +kernel
theorem dX1_lay_105 : decode cX1_lay 105 = .ok (.iadd, 1) := by decide +kernel
theorem dX1_lay_106 : decode cX1_lay 106 = .ok (.istore 8, 2) := by decide +kernel
theorem dX1_lay_108 : decode cX1_lay 108 = .ok (.iload 8, 2) := by decide +kernel
theorem dX1_lay_110 : decode cX1_lay 110 = .ok (.istore 9, 2) := by decide +kernel
theorem dX1_lay_112 : decode cX1_lay 112 = .ok (.iload 9, 2) := by decide +kernel
theorem dX1_lay_114 : decode cX1_lay 114 = .ok (.aload_n 0, 1) := by decide +kernel
theorem dX1_lay_115 : decode cX1_lay 115 = .ok (.getfield 41, 3) := by decide +kernel
theorem dX1_lay_118 : decode cX1_lay 118 = .ok (.if_icmp .ge 24, 3) := by decide +kernel
theorem dX1_lay_121 : decode cX1_lay 121 = .ok (.iload 6, 2) := by decide +kernel
theorem dX1_lay_123 : decode cX1_lay 123 = .ok (.ifCond .eq 19, 3) := by decide +kernel
theorem dX1_lay_126 : decode cX1_lay 126 = .ok (.iload 9, 2) := by decide +kernel
theorem dX1_lay_128 : decode cX1_lay 128 = .ok (.aload_n 0, 1) := by decide +kernel
theorem dX1_lay_129 : decode cX1_lay 129 = .ok (.getfield 21, 3) := by decide +kernel
theorem dX1_lay_132 : decode cX1_lay 132 = .ok (.aload_n 0, 1) := by decide +kernel
theorem dX1_lay_133 : decode cX1_lay 133 = .ok (.getfield 11, 3) := by decide +kernel
theorem dX1_lay_136 : decode cX1_lay 136 = .ok (.invokevirtual 59, 3) := by decide +kernel
theorem dX1_lay_139 : decode cX1_lay 139 = .ok (.iadd, 1) := by decide +kernel
theorem dX1_lay_140 : decode cX1_lay 140 = .ok (.istore 9, 2) := by decide +kernel
theorem dX1_lay_142 : decode cX1_lay 142 = .ok (.iload 9, 2) := by decide +kernel
theorem dX1_lay_144 : decode cX1_lay 144 = .ok (.aload_n 0, 1) := by decide +kernel
theorem dX1_lay_145 : decode cX1_lay 145 = .ok (.getfield 41, 3) := by decide +kernel
theorem dX1_lay_148 : decode cX1_lay 148 = .ok (.if_icmp .ge 31, 3) := by decide +kernel
theorem dX1_lay_151 : decode cX1_lay 151 = .ok (.iload_n 1, 1) := by decide +kernel
theorem dX1_lay_152 : decode cX1_lay 152 = .ok (.iconst 1, 1) := by decide +kernel
theorem dX1_lay_153 : decode cX1_lay 153 = .ok (.iadd, 1) := by decide +kernel
theorem dX1_lay_154 : decode cX1_lay 154 = .ok (.aload_n 0, 1) := by decide +kernel
theorem dX1_lay_155 : decode cX1_lay 155 = .ok (.getfield 37, 3) := by decide +kernel
theorem dX1_lay_158 : decode cX1_lay 158 = .ok (.if_icmp .ge 21, 3) := by decide +kernel
theorem dX1_lay_161 : decode cX1_lay 161 = .ok (.aload_n 0, 1) := by decide +kernel
theorem dX1_lay_162 : decode cX1_lay 162 = .ok (.iload_n 1, 1) := by decide +kernel
theorem dX1_lay_163 : decode cX1_lay 163 = .ok (.iconst 1, 1) := by decide +kernel
theorem dX1_lay_164 : decode cX1_lay 164 = .ok (.iadd, 1) := by decide +kernel
theorem dX1_lay_165 : decode cX1_lay 165 = .ok (.iload_n 2, 1) := by decide +kernel
theorem dX1_lay_166 : decode cX1_lay 166 = .ok (.iconst 1, 1) := by decide +kernel
theorem dX1_lay_167 : decode cX1_lay 167 = .ok (.iload 7, 2) := by decide +kernel
theorem dX1_lay_169 : decode cX1_lay 169 = .ok (.ishl, 1) := by decide +kernel
theorem dX1_lay_170 : decode cX1_lay 170 = .ok (.ior, 1) := by decide +kernel
theorem dX1_lay_171 : decode cX1_lay 171 = .ok (.iload 8, 2) := by decide +kernel
theorem dX1_lay_173 : decode cX1_lay 173 = .ok (.invokevirtual 47, 3) := by decide +kernel
theorem dX1_lay_176 : decode cX1_lay 176 = .ok (.goto 22, 3) := by decide +kernel
theorem dX1_lay_179 : decode cX1_lay 179 = .ok (.iload 9, 2) := by decide +kernel
theorem dX1_lay_181 : decode cX1_lay 181 = .ok (.aload_n 0, 1) := by decide +kernel
theorem dX1_lay_182 : decode cX1_lay 182 = .ok (.getfield 41, 3) := by decide +kernel
theorem dX1_lay_185 : decode cX1_lay 185 = .ok (.if_icmp .ge 13, 3) := by decide +kernel
theorem dX1_lay_188 : decode cX1_lay 188 = .ok (.aload_n 0, 1) := by decide +kernel
theorem dX1_lay_189 : decode cX1_lay 189 = .ok (.iload 9, 2) := by decide +kernel
theorem dX1_lay_191 : decode cX1_lay 191 = .ok (.putfield 41, 3) := by decide +kernel
theorem dX1_lay_194 : decode cX1_lay 194 = .ok (.aload_n 0, 1) := by decide +kernel
theorem dX1_lay_195 : decode cX1_lay 195 = .ok (.invokevirtual 63, 3) := by decide +kernel
theorem dX1_lay_198 : decode cX1_lay 198 = .ok (.iinc 7 1, 3) := by decide +kernel
theorem dX1_lay_201 : decode cX1_lay 201 = .ok (.goto (-152), 3) := by decide +kernel
theorem dX1_lay_204 : decode cX1_lay 204 = .ok (.aload_n 0, 1) := by decide +kernel
theorem dX1_lay_205 : decode cX1_lay 205 = .ok (.getfield 11, 3) := by decide +kernel
theorem dX1_lay_208 : decode cX1_lay 208 = .ok (.iload 4, 2) := by decide +kernel
theorem dX1_lay_210 : decode cX1_lay 210 = .ok (.bipush 7, 2) := by decide +kernel
theorem dX1_lay_212 : decode cX1_lay 212 = .ok (.iastore, 1) := by decide +kernel
theorem dX1_lay_213 : decode cX1_lay 213 = .ok (.return_, 1) := by decide +kernel
theorem dX1_keep_0 : decode cX1_keep 0 = .ok (.aload_n 0, 1) := by decide +kernel
theorem dX1_keep_1 : decode cX1_keep 1 = .ok (.iconst 0, 1) := by decide +kernel
theorem dX1_keep_2 : decode cX1_keep 2 = .ok (.putfield 66, 3) := by decide +kernel
theorem dX1_keep_5 : decode cX1_keep 5 = .ok (.iconst 0, 1) := by decide +kernel
theorem dX1_keep_6 : decode cX1_keep 6 = .ok (.istore_n 1, 1) := by decide +kernel
theorem dX1_keep_7 : decode cX1_keep 7 = .ok (.iload_n 1, 1) := by decide +kernel
theorem dX1_keep_8 : decode cX1_keep 8 = .ok (.aload_n 0, 1) := by decide +kernel
theorem dX1_keep_9 : decode cX1_keep 9 = .ok (.getfield 37, 3) := by decide +kernel
theorem dX1_keep_12 : decode cX1_keep 12 = .ok (.if_icmp .ge 38, 3) := by decide +kernel
theorem dX1_keep_15 : decode cX1_keep 15 = .ok (.aload_n 0, 1) := by decide +kernel
theorem dX1_keep_16 : decode cX1_keep 16 = .ok (.dup, 1) := by decide +kernel
theorem dX1_keep_17 : decode cX1_keep 17 = .ok (.getfield 66, 3) := by decide +kernel
theorem dX1_keep_20 : decode cX1_keep 20 = .ok (.aload_n 0, 1) := by decide +kernel
theorem dX1_keep_21 : decode cX1_keep 21 = .ok (.getfield 11, 3) := by decide +kernel
theorem dX1_keep_24 : decode cX1_keep 24 = .ok (.aload_n 0, 1) := by decide +kernel
theorem dX1_keep_25 : decode cX1_keep 25 = .ok (.getfield 15, 3) := by decide +kernel
theorem dX1_keep_28 : decode cX1_keep 28 = .ok (.iload_n 1, 1) := by decide +kernel
theorem dX1_keep_29 : decode cX1_keep 29 = .ok (.iaload, 1) := by decide +kernel
theorem dX1_keep_30 : decode cX1_keep 30 = .ok (.iaload, 1) := by decide +kernel
theorem dX1_keep_31 : decode cX1_keep 31 = .ok (.aload_n 0, 1) := by decide +kernel
theorem dX1_keep_32 : decode cX1_keep 32 = .ok (.getfield 15, 3) := by decide +kernel
theorem dX1_keep_35 : decode cX1_keep 35 = .ok (.iload_n 1, 1) := by decide +kernel
theorem dX1_keep_36 : decode cX1_keep 36 = .ok (.iaload, 1) := by decide +kernel
theorem dX1_keep_37 : decode cX1_keep 37 = .ok (.iconst 3, 1) := by decide +kernel
theorem dX1_keep_38 : decode cX1_keep 38 = .ok (.imul, 1) := by decide +kernel
theorem dX1_keep_39 : decode cX1_keep 39 = .ok (.ishl, 1) := by decide +kernel
theorem dX1_keep_40 : decode cX1_keep 40 = .ok (.ior, 1) := by decide +kernel
theorem dX1_keep_41 : decode cX1_keep 41 = .ok (.putfield 66, 3) := by decide +kernel
theorem dX1_keep_44 : decode cX1_keep 44 = .ok (.iinc 1 1, 3) := by decide +kernel
theorem dX1_keep_47 : decode cX1_keep 47 = .ok (.goto (-40), 3) := by decide +kernel
theorem dX1_keep_50 : decode cX1_keep 50 = .ok (.return_, 1) := by decide +kernel
theorem dX2_init_0 : decode cX2_init 0 = .ok (.aload_n 0, 1) := by decide +kernel
theorem dX2_init_1 : decode cX2_init 1 = .ok (.invokespecial 3, 3) := by decide +kernel
theorem dX2_init_4 : decode cX2_init 4 = .ok (.aload_n 0, 1) := by decide +kernel
theorem dX2_init_5 : decode cX2_init 5 = .ok (.bipush 7, 2) := by decide +kernel
theorem dX2_init_7 : decode cX2_init 7 = .ok (.newarray .int, 2) := by decide +kernel
theorem dX2_init_9 : decode cX2_init 9 = .ok (.putfield 9, 3) := by decide +kernel
theorem dX2_init_12 : decode cX2_init 12 = .ok (.aload_n 0, 1) := by decide +kernel
theorem dX2_init_13 : decode cX2_init 13 = .ok (.bipush 7, 2) := by decide +kernel
theorem dX2_init_15 : decode cX2_init 15 = .ok (.newarray .int, 2) := by decide +kernel
theorem dX2_init_17 : decode cX2_init 17 = .ok (.putfield 15, 3) := by decide +kernel
theorem dX2_init_20 : decode cX2_init 20 = .ok (.return_, 1) := by decide +kernel
theorem dX3_init_0 : decode cX3_init 0 = .ok (.aload_n 0, 1) := by decide +kernel
theorem dX3_init_1 : decode cX3_init 1 = .ok (.invokespecial 3, 3) := by decide +kernel
theorem dX3_init_4 : decode cX3_init 4 = .ok (.aload_n 0, 1) := by decide +kernel
theorem dX3_init_5 : decode cX3_init 5 = .ok (.bipush 6, 2) := by decide +kernel
theorem dX3_init_7 : decode cX3_init 7 = .ok (.anewarray 9, 3) := by decide +kernel
theorem dX3_init_10 : decode cX3_init 10 = .ok (.putfield 11, 3) := by decide +kernel
theorem dX3_init_13 : decode cX3_init 13 = .ok (.aload_n 0, 1) := by decide +kernel
theorem dX3_init_14 : decode cX3_init 14 = .ok (.iconst 2, 1) := by decide +kernel
theorem dX3_init_15 : decode cX3_init 15 = .ok (.sipush 128, 3) := by decide +kernel
theorem dX3_init_18 : decode cX3_init 18 = .ok (.multianewarray 17 2, 4) := by decide +kernel
theorem dX3_init_22 : decode cX3_init 22 = .ok (.putfield 19, 3) := by decide +kernel
theorem dX3_init_25 : decode cX3_init 25 = .ok (.aload_n 0, 1) := by decide +kernel
theorem dX3_init_26 : decode cX3_init 26 = .ok (.iconst 2, 1) := by decide +kernel
theorem dX3_init_27 : decode cX3_init 27 = .ok (.sipush 128, 3) := by decide +kernel
theorem dX3_init_30 : decode cX3_init 30 = .ok (.multianewarray 17 2, 4) := by decide +kernel
theorem dX3_init_34 : decode cX3_init 34 = .ok (.putfield 22, 3) := by decide +kernel
theorem dX3_init_37 : decode cX3_init 37 = .ok (.aload_n 0, 1) := by decide +kernel
theorem dX3_init_38 : decode cX3_init 38 = .ok (.iconst 3, 1) := by decide +kernel
theorem dX3_init_39 : decode cX3_init 39 = .ok (.newarray .int, 2) := by decide +kernel
theorem dX3_init_41 : decode cX3_init 41 = .ok (.putfield 25, 3) := by decide +kernel
theorem dX3_init_44 : decode cX3_init 44 = .ok (.aload_n 0, 1) := by decide +kernel
theorem dX3_init_45 : decode cX3_init 45 = .ok (.iconst 3, 1) := by decide +kernel
theorem dX3_init_46 : decode cX3_init 46 = .ok (.newarray .int, 2) := by decide +kernel
theorem dX3_init_48 : decode cX3_init 48 = .ok (.putfield 29, 3) := by decide +kernel
theorem dX3_init_51 : decode cX3_init 51 = .ok (.aload_n 0, 1) := by decide +kernel
theorem dX3_init_52 : decode cX3_init 52 = .ok (.bipush 7, 2) := by decide +kernel
theorem dX3_init_54 : decode cX3_init 54 = .ok (.newarray .int, 2) := by decide +kernel
theorem dX3_init_56 : decode cX3_init 56 = .ok (.putfield 32, 3) := by decide +kernel
theorem dX3_init_59 : decode cX3_init 59 = .ok (.aload_n 0, 1) := by decide +kernel
theorem dX3_init_60 : decode cX3_init 60 = .ok (.aload_n 1, 1) := by decide +kernel
theorem dX3_init_61 : decode cX3_init 61 = .ok (.putfield 35, 3) := by decide +kernel
theorem dX3_init_64 : decode cX3_init 64 = .ok (.aload_n 0, 1) := by decide +kernel
theorem dX3_init_65 : decode cX3_init 65 = .ok (.aload_n 2, 1) := by decide +kernel
theorem dX3_init_66 : decode cX3_init 66 = .ok (.putfield 39, 3) := by decide +kernel
theorem dX3_init_69 : decode cX3_init 69 = .ok (.aload_n 0, 1) := by decide +kernel
theorem dX3_init_70 : decode cX3_init 70 = .ok (.new 43, 3) := by decide +kernel
theorem dX3_init_73 : decode cX3_init 73 = .ok (.dup, 1) := by decide +kernel
theorem dX3_init_74 : decode cX3_init 74 = .ok (.aload_n 2, 1) := by decide +kernel
theorem dX3_init_75 : decode cX3_init 75 = .ok (.invokespecial 45, 3) := by decide +kernel
theorem dX3_init_78 : decode cX3_init 78 = .ok (.putfield 48, 3) := by decide +kernel
theorem dX3_init_81 : decode cX3_init 81 = .ok (.iconst 0, 1) := by decide +kernel
theorem dX3_init_82 : decode cX3_init 82 = .ok (.istore_n 3, 1) := by decide +kernel
theorem dX3_init_83 : decode cX3_init 83 = .ok (.iload_n 3, 1) := by decide +kernel
theorem dX3_init_84 : decode cX3_init 84 = .ok (.aload_n 0, 1) := by decide +kernel
theorem dX3_init_85 : decode cX3_init 85 = .ok (.getfield 11, 3) := by decide +kernel
theorem dX3_init_88 : decode cX3_init 88 = .ok (.arraylength, 1) := by decide +kernel
theorem dX3_init_89 : decode cX3_init 89 = .ok (.if_icmp .ge 22, 3) := by decide +kernel
theorem dX3_init_92 : decode cX3_init 92 = .ok (.aload_n 0, 1) := by decide +kernel
theorem dX3_init_93 : decode cX3_init 93 = .ok (.getfield 11, 3) := by decide +kernel
theorem dX3_init_96 : decode cX3_init 96 = .ok (.iload_n 3, 1) := by decide +kernel
theorem dX3_init_97 : decode cX3_init 97 = .ok (.new 9, 3) := by decide +kernel
theorem dX3_init_100 : decode cX3_init 100 = .ok (.dup, 1) := by decide +kernel
theorem dX3_init_101 : decode cX3_init 101 = .ok (.invokespecial 52, 3) := by decide +kernel
theorem dX3_init_104 : decode cX3_init 104 = .ok (.aastore, 1) := by decide +kernel
theorem dX3_init_105 : decode cX3_init 105 = .ok (.iinc 3 1, 3) := by decide +kernel
theorem dX3_init_108 : decode cX3_init 108 = .ok (.goto (-25), 3) := by decide +kernel
theorem dX3_init_111 : decode cX3_init 111 = .ok (.aload_n 0, 1) := by decide +kernel
theorem dX3_init_112 : decode cX3_init 112 = .ok (.invokevirtual 53, 3) := by decide +kernel
theorem dX3_init_115 : decode cX3_init 115 = .ok (.return_, 1) := by decide +kernel
theorem dX3_forget_0 : decode cX3_forget 0 = .ok (.iconst 0, 1) := by decide +kernel
theorem dX3_forget_1 : decode cX3_forget 1 = .ok (.istore_n 1, 1) := by decide +kernel
theorem dX3_forget_2 : decode cX3_forget 2 = .ok (.iload_n 1, 1) := by decide +kernel
theorem dX3_forget_3 : decode cX3_forget 3 = .ok (.aload_n 0, 1) := by decide +kernel
theorem dX3_forget_4 : decode cX3_forget 4 = .ok (.getfield 11, 3) := by decide +kernel
theorem dX3_forget_7 : decode cX3_forget 7 = .ok (.arraylength, 1) := by decide +kernel
theorem dX3_forget_8 : decode cX3_forget 8 = .ok (.if_icmp .ge 19, 3) := by decide +kernel
theorem dX3_forget_11 : decode cX3_forget 11 = .ok (.aload_n 0, 1) := by decide +kernel
theorem dX3_forget_12 : decode cX3_forget 12 = .ok (.getfield 11, 3) := by decide +kernel
theorem dX3_forget_15 : decode cX3_forget 15 = .ok (.iload_n 1, 1) := by decide +kernel
theorem dX3_forget_16 : decode cX3_forget 16 = .ok (.aaload, 1) := by decide +kernel
theorem dX3_forget_17 : decode cX3_forget 17 = .ok (.iconst 0, 1) := by decide +kernel
theorem dX3_forget_18 : decode cX3_forget 18 = .ok (.putfield 56, 3) := by decide +kernel
theorem dX3_forget_21 : decode cX3_forget 21 = .ok (.iinc 1 1, 3) := by decide +kernel
theorem dX3_forget_24 : decode cX3_forget 24 = .ok (.goto (-22), 3) := by decide +kernel
theorem dX3_forget_27 : decode cX3_forget 27 = .ok (.iconst 0, 1) := by decide +kernel
theorem dX3_forget_28 : decode cX3_forget 28 = .ok (.istore_n 1, 1) := by decide +kernel
theorem dX3_forget_29 : decode cX3_forget 29 = .ok (.iload_n 1, 1) := by decide +kernel
theorem dX3_forget_30 : decode cX3_forget 30 = .ok (.iconst 2, 1) := by decide +kernel
theorem dX3_forget_31 : decode cX3_forget 31 = .ok (.if_icmp .ge 29, 3) := by decide +kernel
theorem dX3_forget_34 : decode cX3_forget 34 = .ok (.aload_n 0, 1) := by decide +kernel
theorem dX3_forget_35 : decode cX3_forget 35 = .ok (.getfield 19, 3) := by decide +kernel
theorem dX3_forget_38 : decode cX3_forget 38 = .ok (.iload_n 1, 1) := by decide +kernel
theorem dX3_forget_39 : decode cX3_forget 39 = .ok (.aaload, 1) := by decide +kernel
theorem dX3_forget_40 : decode cX3_forget 40 = .ok (.iconst 1, 1) := by decide +kernel
theorem dX3_forget_41 : decode cX3_forget 41 = .ok (.invokestatic 60, 3) := by decide +kernel
theorem dX3_forget_44 : decode cX3_forget 44 = .ok (.aload_n 0, 1) := by decide +kernel
theorem dX3_forget_45 : decode cX3_forget 45 = .ok (.getfield 22, 3) := by decide +kernel
theorem dX3_forget_48 : decode cX3_forget 48 = .ok (.iload_n 1, 1) := by decide +kernel
theorem dX3_forget_49 : decode cX3_forget 49 = .ok (.aaload, 1) := by decide +kernel
theorem dX3_forget_50 : decode cX3_forget 50 = .ok (.iconst (-1), 1) := by decide +kernel
theorem dX3_forget_51 : decode cX3_forget 51 = .ok (.invokestatic 60, 3) := by decide +kernel
theorem dX3_forget_54 : decode cX3_forget 54 = .ok (.iinc 1 1, 3) := by decide +kernel
theorem dX3_forget_57 : decode cX3_forget 57 = .ok (.goto (-28), 3) := by decide +kernel
theorem dX3_forget_60 : decode cX3_forget 60 = .ok (.return_, 1) := by decide +kernel
theorem dX3_planFor_0 : decode cX3_planFor 0 = .ok (.aload_n 0, 1) := by decide +kernel
theorem dX3_planFor_1 : decode cX3_planFor 1 = .ok (.getfield 11, 3) := by decide +kernel
theorem dX3_planFor_4 : decode cX3_planFor 4 = .ok (.iload_n 1, 1) := by decide +kernel
theorem dX3_planFor_5 : decode cX3_planFor 5 = .ok (.iconst 1, 1) := by decide +kernel
theorem dX3_planFor_6 : decode cX3_planFor 6 = .ok (.isub, 1) := by decide +kernel
theorem dX3_planFor_7 : decode cX3_planFor 7 = .ok (.iconst 2, 1) := by decide +kernel
theorem dX3_planFor_8 : decode cX3_planFor 8 = .ok (.imul, 1) := by decide +kernel
theorem dX3_planFor_9 : decode cX3_planFor 9 = .ok (.iload_n 2, 1) := by decide +kernel
theorem dX3_planFor_10 : decode cX3_planFor 10 = .ok (.iadd, 1) := by decide +kernel
theorem dX3_planFor_11 : decode cX3_planFor 11 = .ok (.aaload, 1) := by decide +kernel
theorem dX3_planFor_12 : decode cX3_planFor 12 = .ok (.astore_n 3, 1) := by decide +kernel
theorem dX3_planFor_13 : decode cX3_planFor 13 = .ok (.aload_n 3, 1) := by decide +kernel
theorem dX3_planFor_14 : decode cX3_planFor 14 = .ok (.getfield 56, 3) := by decide +kernel
theorem dX3_planFor_17 : decode cX3_planFor 17 = .ok (.ifCond .ne 106, 3) := by decide +kernel
theorem dX3_planFor_20 : decode cX3_planFor 20 = .ok (.aload_n 0, 1) := by decide +kernel
theorem dX3_planFor_21 : decode cX3_planFor 21 = .ok (.iload_n 1, 1) := by decide +kernel
theorem dX3_planFor_22 : decode cX3_planFor 22 = .ok (.putfield 66, 3) := by decide +kernel
theorem dX3_planFor_25 : decode cX3_planFor 25 = .ok (.aload_n 0, 1) := by decide +kernel
theorem dX3_planFor_26 : decode cX3_planFor 26 = .ok (.iload_n 2, 1) := by decide +kernel
theorem dX3_planFor_27 : decode cX3_planFor 27 = .ok (.putfield 70, 3) := by decide +kernel
theorem dX3_planFor_30 : decode cX3_planFor 30 = .ok (.aload_n 0, 1) := by decide +kernel
theorem dX3_planFor_31 : decode cX3_planFor 31 = .ok (.aload_n 0, 1) := by decide +kernel
theorem dX3_planFor_32 : decode cX3_planFor 32 = .ok (.getfield 70, 3) := by decide +kernel
theorem dX3_planFor_35 : decode cX3_planFor 35 = .ok (.ifCond .ne 7, 3) := by decide +kernel
theorem dX3_planFor_38 : decode cX3_planFor 38 = .ok (.iconst 0, 1) := by decide +kernel
theorem dX3_planFor_39 : decode cX3_planFor 39 = .ok (.goto 10, 3) := by decide +kernel
theorem dX3_planFor_42 : decode cX3_planFor 42 = .ok (.aload_n 0, 1) := by decide +kernel
theorem dX3_planFor_43 : decode cX3_planFor 43 = .ok (.getfield 35, 3) := by decide +kernel
theorem dX3_planFor_46 : decode cX3_planFor 46 = .ok (.invokevirtual 73, 3) := by decide +kernel
theorem dX3_planFor_49 : decode cX3_planFor 49 = .ok (.putfield 79, 3) := by decide +kernel
theorem dX3_planFor_52 : decode cX3_planFor 52 = .ok (.aload_n 0, 1) := by decide +kernel
theorem dX3_planFor_53 : decode cX3_planFor 53 = .ok (.sipush 1000, 3) := by decide +kernel
theorem dX3_planFor_56 : decode cX3_planFor 56 = .ok (.putfield 82, 3) := by decide +kernel
theorem dX3_planFor_59 : decode cX3_planFor 59 = .ok (.aload_n 0, 1) := by decide +kernel
theorem dX3_planFor_60 : decode cX3_planFor 60 = .ok (.invokevirtual 85, 3) := by decide +kernel
theorem dX3_planFor_63 : decode cX3_planFor 63 = .ok (.aload_n 0, 1) := by decide +kernel
theorem dX3_planFor_64 : decode cX3_planFor 64 = .ok (.aload_n 0, 1) := by decide +kernel
theorem dX3_planFor_65 : decode cX3_planFor 65 = .ok (.getfield 88, 3) := by decide +kernel
theorem dX3_planFor_68 : decode cX3_planFor 68 = .ok (.aload_n 0, 1) := by decide +kernel
theorem dX3_planFor_69 : decode cX3_planFor 69 = .ok (.getfield 66, 3) := by decide +kernel
theorem dX3_planFor_72 : decode cX3_planFor 72 = .ok (.iadd, 1) := by decide +kernel
theorem dX3_planFor_73 : decode cX3_planFor 73 = .ok (.iconst 1, 1) := by decide +kernel
theorem dX3_planFor_74 : decode cX3_planFor 74 = .ok (.isub, 1) := by decide +kernel
theorem dX3_planFor_75 : decode cX3_planFor 75 = .ok (.aload_n 0, 1) := by decide +kernel
theorem dX3_planFor_76 : decode cX3_planFor 76 = .ok (.getfield 66, 3) := by decide +kernel
theorem dX3_planFor_79 : decode cX3_planFor 79 = .ok (.idiv, 1) := by decide +kernel
theorem dX3_planFor_80 : decode cX3_planFor 80 = .ok (.putfield 91, 3) := by decide +kernel
theorem dX3_planFor_83 : decode cX3_planFor 83 = .ok (.aload_n 0, 1) := by decide +kernel
theorem dX3_planFor_84 : decode cX3_planFor 84 = .ok (.iconst 0, 1) := by decide +kernel
theorem dX3_planFor_85 : decode cX3_planFor 85 = .ok (.iconst 0, 1) := by decide +kernel
theorem dX3_planFor_86 : decode cX3_planFor 86 = .ok (.invokevirtual 94, 3) := by decide +kernel
theorem dX3_planFor_89 : decode cX3_planFor 89 = .ok (.aload_n 0, 1) := by decide +kernel
theorem dX3_planFor_90 : decode cX3_planFor 90 = .ok (.dup, 1) := by decide +kernel
theorem dX3_planFor_91 : decode cX3_planFor 91 = .ok (.getfield 82, 3) := by decide +kernel
theorem dX3_planFor_94 : decode cX3_planFor 94 = .ok (.iconst 1, 1) := by decide +kernel
theorem dX3_planFor_95 : decode cX3_planFor 95 = .ok (.iadd, 1) := by decide +kernel
theorem dX3_planFor_96 : decode cX3_planFor 96 = .ok (.putfield 82, 3) := by decide +kernel
theorem dX3_planFor_99 : decode cX3_planFor 99 = .ok (.aload_n 0, 1) := by decide +kernel
theorem dX3_planFor_100 : decode cX3_planFor 100 = .ok (.aload_n 0, 1) := by decide +kernel
theorem dX3_planFor_101 : decode cX3_planFor 101 = .ok (.getfield 88, 3) := by decide +kernel
theorem dX3_planFor_104 : decode cX3_planFor 104 = .ok (.putfield 91, 3) := by decide +kernel
theorem dX3_planFor_107 : decode cX3_planFor 107 = .ok (.aload_n 0, 1) := by decide +kernel
theorem dX3_planFor_108 : decode cX3_planFor 108 = .ok (.iconst 0, 1) := by decide +kernel
theorem dX3_planFor_109 : decode cX3_planFor 109 = .ok (.iconst 0, 1) := by decide +kernel
theorem dX3_planFor_110 : decode cX3_planFor 110 = .ok (.invokevirtual 94, 3) := by decide +kernel
theorem dX3_planFor_113 : decode cX3_planFor 113 = .ok (.aload_n 0, 1) := by decide +kernel
theorem dX3_planFor_114 : decode cX3_planFor 114 = .ok (.aload_n 3, 1) := by decide +kernel
theorem dX3_planFor_115 : decode cX3_planFor 115 = .ok (.invokevirtual 98, 3) := by decide +kernel
theorem dX3_planFor_118 : decode cX3_planFor 118 = .ok (.aload_n 3, 1) := by decide +kernel
theorem dX3_planFor_119 : decode cX3_planFor 119 = .ok (.iconst 1, 1) := by decide +kernel
theorem dX3_planFor_120 : decode cX3_planFor 120 = .ok (.putfield 56, 3) := by decide +kernel
theorem dX3_planFor_123 : decode cX3_planFor 123 = .ok (.aload_n 3, 1) := by decide +kernel
theorem dX3_planFor_124 : decode cX3_planFor 124 = .ok (.areturn, 1) := by decide +kernel
theorem dX3_listUsed_0 : decode cX3_listUsed 0 = .ok (.aload_n 0, 1) := by decide +kernel
theorem dX3_listUsed_1 : decode cX3_listUsed 1 = .ok (.getfield 35, 3) := by decide +kernel
theorem dX3_listUsed_4 : decode cX3_listUsed 4 = .ok (.invokevirtual 102, 3) := by decide +kernel
theorem dX3_listUsed_7 : decode cX3_listUsed 7 = .ok (.istore_n 1, 1) := by decide +kernel
theorem dX3_listUsed_8 : decode cX3_listUsed 8 = .ok (.aload_n 0, 1) := by decide +kernel
theorem dX3_listUsed_9 : decode cX3_listUsed 9 = .ok (.iconst 0, 1) := by decide +kernel
theorem dX3_listUsed_10 : decode cX3_listUsed 10 = .ok (.putfield 88, 3) := by decide +kernel
theorem dX3_listUsed_13 : decode cX3_listUsed 13 = .ok (.iconst 0, 1) := by decide +kernel
theorem dX3_listUsed_14 : decode cX3_listUsed 14 = .ok (.istore_n 2, 1) := by decide +kernel
theorem dX3_listUsed_15 : decode cX3_listUsed 15 = .ok (.iload_n 2, 1) := by decide +kernel
theorem dX3_listUsed_16 : decode cX3_listUsed 16 = .ok (.bipush 7, 2) := by decide +kernel
theorem dX3_listUsed_18 : decode cX3_listUsed 18 = .ok (.if_icmp .ge 37, 3) := by decide +kernel
theorem dX3_listUsed_21 : decode cX3_listUsed 21 = .ok (.iload_n 1, 1) := by decide +kernel
theorem dX3_listUsed_22 : decode cX3_listUsed 22 = .ok (.iload_n 2, 1) := by decide +kernel
theorem dX3_listUsed_23 : decode cX3_listUsed 23 = .ok (.ishr, 1) := by decide +kernel
theorem dX3_listUsed_24 : decode cX3_listUsed 24 = .ok (.iconst 1, 1) := by decide +kernel
theorem dX3_listUsed_25 : decode cX3_listUsed 25 = .ok (.iand, 1) := by decide +kernel
theorem dX3_listUsed_26 : decode cX3_listUsed 26 = .ok (.ifCond .eq 23, 3) := by decide +kernel
theorem dX3_listUsed_29 : decode cX3_listUsed 29 = .ok (.aload_n 0, 1) := by decide +kernel
theorem dX3_listUsed_30 : decode cX3_listUsed 30 = .ok (.getfield 32, 3) := by decide +kernel
theorem dX3_listUsed_33 : decode cX3_listUsed 33 = .ok (.aload_n 0, 1) := by decide +kernel
theorem dX3_listUsed_34 : decode cX3_listUsed 34 = .ok (.getfield 88, 3) := by decide +kernel
theorem dX3_listUsed_37 : decode cX3_listUsed 37 = .ok (.iload_n 2, 1) := by decide +kernel
theorem dX3_listUsed_38 : decode cX3_listUsed 38 = .ok (.iastore, 1) := by decide +kernel
theorem dX3_listUsed_39 : decode cX3_listUsed 39 = .ok (.aload_n 0, 1) := by decide +kernel
theorem dX3_listUsed_40 : decode cX3_listUsed 40 = .ok (.dup, 1) := by decide +kernel
theorem dX3_listUsed_41 : decode cX3_listUsed 41 = .ok (.getfield 88, 3) := by decide +kernel
theorem dX3_listUsed_44 : decode cX3_listUsed 44 = .ok (.iconst 1, 1) := by decide +kernel
theorem dX3_listUsed_45 : decode cX3_listUsed 45 = .ok (.iadd, 1) := by decide +kernel
theorem dX3_listUsed_46 : decode cX3_listUsed 46 = .ok (.putfield 88, 3) := by decide +kernel
theorem dX3_listUsed_49 : decode cX3_listUsed 49 = .ok (.iinc 2 1, 3) := by decide +kernel
theorem dX3_listUsed_52 : decode cX3_listUsed 52 = .ok (.goto (-37), 3) := by decide +kernel
theorem dX3_listUsed_55 : decode cX3_listUsed 55 = .ok (.return_, 1) := by decide +kernel
theorem dX3_divide_0 : decode cX3_divide 0 = .ok (.iload_n 1, 1) := by decide +kernel
theorem dX3_divide_1 : decode cX3_divide 1 = .ok (.aload_n 0, 1) := by decide +kernel
theorem dX3_divide_2 : decode cX3_divide 2 = .ok (.getfield 88, 3) := by decide +kernel
theorem dX3_divide_5 : decode cX3_divide 5 = .ok (.if_icmp .lt 9, 3) := by decide +kernel
theorem dX3_divide_8 : decode cX3_divide 8 = .ok (.aload_n 0, 1) := by decide +kernel
theorem dX3_divide_9 : decode cX3_divide 9 = .ok (.iload_n 2, 1) := by decide +kernel
theorem dX3_divide_10 : decode cX3_divide 10 = .ok (.invokevirtual 105, 3) := by decide +kernel
theorem dX3_divide_13 : decode cX3_divide 13 = .ok (.return_, 1) := by decide +kernel
theorem dX3_divide_14 : decode cX3_divide 14 = .ok (.iconst 1, 1) := by decide +kernel
theorem dX3_divide_15 : decode cX3_divide 15 = .ok (.aload_n 0, 1) := by decide +kernel
theorem dX3_divide_16 : decode cX3_divide 16 = .ok (.getfield 32, 3) := by decide +kernel
theorem dX3_divide_19 : decode cX3_divide 19 = .ok (.iload_n 1, 1) := by decide +kernel
theorem dX3_divide_20 : decode cX3_divide 20 = .ok (.iaload, 1) := by decide +kernel
theorem dX3_divide_21 : decode cX3_divide 21 = .ok (.ishl, 1) := by decide +kernel
theorem dX3_divide_22 : decode cX3_divide 22 = .ok (.istore_n 3, 1) := by decide +kernel
theorem dX3_divide_23 : decode cX3_divide 23 = .ok (.iload_n 2, 1) := by decide +kernel
theorem dX3_divide_24 : decode cX3_divide 24 = .ok (.iconst 1, 1) := by decide +kernel
theorem dX3_divide_25 : decode cX3_divide 25 = .ok (.iadd, 1) := by decide +kernel
theorem dX3_divide_26 : decode cX3_divide 26 = .ok (.aload_n 0, 1) := by decide +kernel
theorem dX3_divide_27 : decode cX3_divide 27 = .ok (.getfield 66, 3) := by decide +kernel
theorem dX3_divide_30 : decode cX3_divide 30 = .ok (.invokestatic 109, 3) := by decide +kernel
theorem dX3_divide_33 : decode cX3_divide 33 = .ok (.istore 4, 2) := by decide +kernel
theorem dX3_divide_35 : decode cX3_divide 35 = .ok (.iconst 0, 1) := by decide +kernel
theorem dX3_divide_36 : decode cX3_divide 36 = .ok (.istore 5, 2) := by decide +kernel
theorem dX3_divide_38 : decode cX3_divide 38 = .ok (.iload 5, 2) := by decide +kernel
theorem dX3_divide_40 : decode cX3_divide 40 = .ok (.iload 4, 2) := by decide +kernel
theorem dX3_divide_42 : decode cX3_divide 42 = .ok (.if_icmp .ge 65, 3) := by decide +kernel
theorem dX3_divide_45 : decode cX3_divide 45 = .ok (.aload_n 0, 1) := by decide +kernel
theorem dX3_divide_46 : decode cX3_divide 46 = .ok (.getfield 25, 3) := by decide +kernel
theorem dX3_divide_49 : decode cX3_divide 49 = .ok (.iload 5, 2) := by decide +kernel
theorem dX3_divide_51 : decode cX3_divide 51 = .ok (.iaload, 1) := by decide +kernel
theorem dX3_divide_52 : decode cX3_divide 52 = .ok (.invokestatic 115, 3) := by decide +kernel
theorem dX3_divide_55 : decode cX3_divide 55 = .ok (.aload_n 0, 1) := by decide +kernel
theorem dX3_divide_56 : decode cX3_divide 56 = .ok (.getfield 91, 3) := by decide +kernel
theorem dX3_divide_59 : decode cX3_divide 59 = .ok (.if_icmp .ge 42, 3) := by decide +kernel
theorem dX3_divide_62 : decode cX3_divide 62 = .ok (.aload_n 0, 1) := by decide +kernel
theorem dX3_divide_63 : decode cX3_divide 63 = .ok (.getfield 25, 3) := by decide +kernel
theorem dX3_divide_66 : decode cX3_divide 66 = .ok (.iload 5, 2) := by decide +kernel
theorem dX3_divide_68 : decode cX3_divide 68 = .ok (.dup2, 1) := by decide +kernel
theorem dX3_divide_69 : decode cX3_divide 69 = .ok (.iaload, 1) := by decide +kernel
theorem dX3_divide_70 : decode cX3_divide 70 = .ok (.iload_n 3, 1) := by decide +kernel
theorem dX3_divide_71 : decode cX3_divide 71 = .ok (.ior, 1) := by decide +kernel
theorem dX3_divide_72 : decode cX3_divide 72 = .ok (.iastore, 1) := by decide +kernel
theorem dX3_divide_73 : decode cX3_divide 73 = .ok (.aload_n 0, 1) := by decide +kernel
theorem dX3_divide_74 : decode cX3_divide 74 = .ok (.iload_n 1, 1) := by decide +kernel
theorem dX3_divide_75 : decode cX3_divide 75 = .ok (.iconst 1, 1) := by decide +kernel
theorem dX3_divide_76 : decode cX3_divide 76 = .ok (.iadd, 1) := by decide +kernel
theorem dX3_divide_77 : decode cX3_divide 77 = .ok (.iload_n 2, 1) := by decide +kernel
theorem dX3_divide_78 : decode cX3_divide 78 = .ok (.iload 5, 2) := by decide +kernel
theorem dX3_divide_80 : decode cX3_divide 80 = .ok (.iconst 1, 1) := by decide +kernel
theorem dX3_divide_81 : decode cX3_divide 81 = .ok (.iadd, 1) := by decide +kernel
theorem dX3_divide_82 : decode cX3_divide 82 = .ok (.invokestatic 121, 3) := by decide +kernel
theorem dX3_divide_85 : decode cX3_divide 85 = .ok (.invokevirtual 94, 3) := by decide +kernel
theorem dX3_divide_88 : decode cX3_divide 88 = .ok (.aload_n 0, 1) := by decide +kernel
theorem dX3_divide_89 : decode cX3_divide 89 = .ok (.getfield 25, 3) := by decide +kernel
theorem dX3_divide_92 : decode cX3_divide 92 = .ok (.iload 5, 2) := by decide +kernel
theorem dX3_divide_94 : decode cX3_divide 94 = .ok (.dup2, 1) := by decide +kernel
theorem dX3_divide_95 : decode cX3_divide 95 = .ok (.iaload, 1) := by decide +kernel
theorem dX3_divide_96 : decode cX3_divide 96 = .ok (.iload_n 3, 1) := by decide +kernel
theorem dX3_divide_97 : decode cX3_divide 97 = .ok (.iconst (-1), 1) := by decide +kernel
theorem dX3_divide_98 : decode cX3_divide 98 = .ok (.ixor, 1) := by decide +kernel
theorem dX3_divide_99 : decode cX3_divide 99 = .ok (.iand, 1) := by decide +kernel
theorem dX3_divide_100 : decode cX3_divide 100 = .ok (.iastore, 1) := by decide +kernel
theorem dX3_divide_101 : decode cX3_divide 101 = .ok (.iinc 5 1, 3) := by decide +kernel
theorem dX3_divide_104 : decode cX3_divide 104 = .ok (.goto (-66), 3) := by decide +kernel
theorem dX3_divide_107 : decode cX3_divide 107 = .ok (.return_, 1) := by decide +kernel
theorem dX3_compare_0 : decode cX3_compare 0 = .ok (.iconst 0, 1) := by decide +kernel
theorem dX3_compare_1 : decode cX3_compare 1 = .ok (.istore_n 2, 1) := by decide +kernel
theorem dX3_compare_2 : decode cX3_compare 2 = .ok (.iconst 0, 1) := by decide +kernel
theorem dX3_compare_3 : decode cX3_compare 3 = .ok (.istore_n 3, 1) := by decide +kernel
theorem dX3_compare_4 : decode cX3_compare 4 = .ok (.iload_n 3, 1) := by decide +kernel
theorem dX3_compare_5 : decode cX3_compare 5 = .ok (.iload_n 1, 1) := by decide +kernel
theorem dX3_compare_6 : decode cX3_compare 6 = .ok (.if_icmp .ge 28, 3) := by decide +kernel
theorem dX3_compare_9 : decode cX3_compare 9 = .ok (.iload_n 2, 1) := by decide +kernel
theorem dX3_compare_10 : decode cX3_compare 10 = .ok (.aload_n 0, 1) := by decide +kernel
theorem dX3_compare_11 : decode cX3_compare 11 = .ok (.getfield 19, 3) := by decide +kernel
theorem dX3_compare_14 : decode cX3_compare 14 = .ok (.aload_n 0, 1) := by decide +kernel
theorem dX3_compare_15 : decode cX3_compare 15 = .ok (.getfield 70, 3) := by decide +kernel
theorem dX3_compare_18 : decode cX3_compare 18 = .ok (.aaload, 1) := by decide +kernel
theorem dX3_compare_19 : decode cX3_compare 19 = .ok (.aload_n 0, 1) := by decide +kernel
theorem dX3_compare_20 : decode cX3_compare 20 = .ok (.getfield 25, 3) := by decide +kernel
theorem dX3_compare_23 : decode cX3_compare 23 = .ok (.iload_n 3, 1) := by decide +kernel
theorem dX3_compare_24 : decode cX3_compare 24 = .ok (.iaload, 1) := by decide +kernel
theorem dX3_compare_25 : decode cX3_compare 25 = .ok (.iaload, 1) := by decide +kernel
theorem dX3_compare_26 : decode cX3_compare 26 = .ok (.iadd, 1) := by decide +kernel
theorem dX3_compare_27 : decode cX3_compare 27 = .ok (.istore_n 2, 1) := by decide +kernel
theorem dX3_compare_28 : decode cX3_compare 28 = .ok (.iinc 3 1, 3) := by decide +kernel
theorem dX3_compare_31 : decode cX3_compare 31 = .ok (.goto (-27), 3) := by decide +kernel
theorem dX3_compare_34 : decode cX3_compare 34 = .ok (.iconst 0, 1) := by decide +kernel
theorem dX3_compare_35 : decode cX3_compare 35 = .ok (.istore_n 3, 1) := by decide +kernel
theorem dX3_compare_36 : decode cX3_compare 36 = .ok (.iload_n 3, 1) := by decide +kernel
theorem dX3_compare_37 : decode cX3_compare 37 = .ok (.iload_n 1, 1) := by decide +kernel
theorem dX3_compare_38 : decode cX3_compare 38 = .ok (.if_icmp .ge 133, 3) := by decide +kernel
theorem dX3_compare_41 : decode cX3_compare 41 = .ok (.iload_n 2, 1) := by decide +kernel
theorem dX3_compare_42 : decode cX3_compare 42 = .ok (.aload_n 0, 1) := by decide +kernel
theorem dX3_compare_43 : decode cX3_compare 43 = .ok (.getfield 82, 3) := by decide +kernel
theorem dX3_compare_46 : decode cX3_compare 46 = .ok (.if_icmp .ge 125, 3) := by decide +kernel
theorem dX3_compare_49 : decode cX3_compare 49 = .ok (.aload_n 0, 1) := by decide +kernel
theorem dX3_compare_50 : decode cX3_compare 50 = .ok (.getfield 25, 3) := by decide +kernel
theorem dX3_compare_53 : decode cX3_compare 53 = .ok (.iload_n 3, 1) := by decide +kernel
theorem dX3_compare_54 : decode cX3_compare 54 = .ok (.iaload, 1) := by decide +kernel
theorem dX3_compare_55 : decode cX3_compare 55 = .ok (.istore 4, 2) := by decide +kernel
theorem dX3_compare_57 : decode cX3_compare 57 = .ok (.aload_n 0, 1) := by decide +kernel
theorem dX3_compare_58 : decode cX3_compare 58 = .ok (.getfield 22, 3) := by decide +kernel
theorem dX3_compare_61 : decode cX3_compare 61 = .ok (.aload_n 0, 1) := by decide +kernel
theorem dX3_compare_62 : decode cX3_compare 62 = .ok (.getfield 70, 3) := by decide +kernel
theorem dX3_compare_65 : decode cX3_compare 65 = .ok (.aaload, 1) := by decide +kernel
theorem dX3_compare_66 : decode cX3_compare 66 = .ok (.iload 4, 2) := by decide +kernel
theorem dX3_compare_68 : decode cX3_compare 68 = .ok (.iaload, 1) := by decide +kernel
theorem dX3_compare_69 : decode cX3_compare 69 = .ok (.iconst (-1), 1) := by decide +kernel
theorem dX3_compare_70 : decode cX3_compare 70 = .ok (.if_icmp .ne 95, 3) := by decide +kernel
theorem dX3_compare_73 : decode cX3_compare 73 = .ok (.iload_n 2, 1) := by decide +kernel
theorem dX3_compare_74 : decode cX3_compare 74 = .ok (.aload_n 0, 1) := by decide +kernel
theorem dX3_compare_75 : decode cX3_compare 75 = .ok (.getfield 19, 3) := by decide +kernel
theorem dX3_compare_78 : decode cX3_compare 78 = .ok (.aload_n 0, 1) := by decide +kernel
theorem dX3_compare_79 : decode cX3_compare 79 = .ok (.getfield 70, 3) := by decide +kernel
theorem dX3_compare_82 : decode cX3_compare 82 = .ok (.aaload, 1) := by decide +kernel
theorem dX3_compare_83 : decode cX3_compare 83 = .ok (.iload 4, 2) := by decide +kernel
theorem dX3_compare_85 : decode cX3_compare 85 = .ok (.iaload, 1) := by decide +kernel
theorem dX3_compare_86 : decode cX3_compare 86 = .ok (.isub, 1) := by decide +kernel
theorem dX3_compare_87 : decode cX3_compare 87 = .ok (.istore 5, 2) := by decide +kernel
theorem dX3_compare_89 : decode cX3_compare 89 = .ok (.aload_n 0, 1) := by decide +kernel
theorem dX3_compare_90 : decode cX3_compare 90 = .ok (.getfield 82, 3) := by decide +kernel
theorem dX3_compare_93 : decode cX3_compare 93 = .ok (.iload 5, 2) := by decide +kernel
theorem dX3_compare_95 : decode cX3_compare 95 = .ok (.isub, 1) := by decide +kernel
theorem dX3_compare_96 : decode cX3_compare 96 = .ok (.istore 6, 2) := by decide +kernel
theorem dX3_compare_98 : decode cX3_compare 98 = .ok (.aload_n 0, 1) := by decide +kernel
theorem dX3_compare_99 : decode cX3_compare 99 = .ok (.getfield 48, 3) := by decide +kernel
theorem dX3_compare_102 : decode cX3_compare 102 = .ok (.iload 6, 2) := by decide +kernel
theorem dX3_compare_104 : decode cX3_compare 104 = .ok (.aload_n 0, 1) := by decide +kernel
theorem dX3_compare_105 : decode cX3_compare 105 = .ok (.getfield 35, 3) := by decide +kernel
theorem dX3_compare_108 : decode cX3_compare 108 = .ok (.iload 4, 2) := by decide +kernel
theorem dX3_compare_110 : decode cX3_compare 110 = .ok (.aload_n 0, 1) := by decide +kernel
theorem dX3_compare_111 : decode cX3_compare 111 = .ok (.getfield 79, 3) := by decide +kernel
theorem dX3_compare_114 : decode cX3_compare 114 = .ok (.invokevirtual 124, 3) := by decide +kernel
theorem dX3_compare_117 : decode cX3_compare 117 = .ok (.istore 7, 2) := by decide +kernel
theorem dX3_compare_119 : decode cX3_compare 119 = .ok (.aload_n 0, 1) := by decide +kernel
theorem dX3_compare_120 : decode cX3_compare 120 = .ok (.getfield 19, 3) := by decide +kernel
theorem dX3_compare_123 : decode cX3_compare 123 = .ok (.aload_n 0, 1) := by decide +kernel
theorem dX3_compare_124 : decode cX3_compare 124 = .ok (.getfield 70, 3) := by decide +kernel
theorem dX3_compare_127 : decode cX3_compare 127 = .ok (.aaload, 1) := by decide +kernel
theorem dX3_compare_128 : decode cX3_compare 128 = .ok (.iload 4, 2) := by decide +kernel
theorem dX3_compare_130 : decode cX3_compare 130 = .ok (.iload 7, 2) := by decide +kernel
theorem dX3_compare_132 : decode cX3_compare 132 = .ok (.iastore, 1) := by decide +kernel
theorem dX3_compare_133 : decode cX3_compare 133 = .ok (.iload 7, 2) := by decide +kernel
theorem dX3_compare_135 : decode cX3_compare 135 = .ok (.iload 6, 2) := by decide +kernel
theorem dX3_compare_137 : decode cX3_compare 137 = .ok (.if_icmp .ge 22, 3) := by decide +kernel
theorem dX3_compare_140 : decode cX3_compare 140 = .ok (.aload_n 0, 1) := by decide +kernel
theorem dX3_compare_141 : decode cX3_compare 141 = .ok (.getfield 22, 3) := by decide +kernel
theorem dX3_compare_144 : decode cX3_compare 144 = .ok (.aload_n 0, 1) := by decide +kernel
theorem dX3_compare_145 : decode cX3_compare 145 = .ok (.getfield 70, 3) := by decide +kernel
theorem dX3_compare_148 : decode cX3_compare 148 = .ok (.aaload, 1) := by decide +kernel
theorem dX3_compare_149 : decode cX3_compare 149 = .ok (.iload 4, 2) := by decide +kernel
theorem dX3_compare_151 : decode cX3_compare 151 = .ok (.aload_n 0, 1) := by decide +kernel
theorem dX3_compare_152 : decode cX3_compare 152 = .ok (.getfield 48, 3) := by decide +kernel
theorem dX3_compare_155 : decode cX3_compare 155 = .ok (.getfield 128, 3) := by decide +kernel
theorem dX3_compare_158 : decode cX3_compare 158 = .ok (.iastore, 1) := by decide +kernel
theorem dX3_compare_159 : decode cX3_compare 159 = .ok (.iload 5, 2) := by decide +kernel
theorem dX3_compare_161 : decode cX3_compare 161 = .ok (.iload 7, 2) := by decide +kernel
theorem dX3_compare_163 : decode cX3_compare 163 = .ok (.iadd, 1) := by decide +kernel
theorem dX3_compare_164 : decode cX3_compare 164 = .ok (.istore_n 2, 1) := by decide +kernel
theorem dX3_compare_165 : decode cX3_compare 165 = .ok (.iinc 3 1, 3) := by decide +kernel
theorem dX3_compare_168 : decode cX3_compare 168 = .ok (.goto (-132), 3) := by decide +kernel
theorem dX3_compare_171 : decode cX3_compare 171 = .ok (.iload_n 2, 1) := by decide +kernel
theorem dX3_compare_172 : decode cX3_compare 172 = .ok (.aload_n 0, 1) := by decide +kernel
theorem dX3_compare_173 : decode cX3_compare 173 = .ok (.getfield 82, 3) := by decide +kernel
theorem dX3_compare_176 : decode cX3_compare 176 = .ok (.if_icmp .ge 27, 3) := by decide +kernel
theorem dX3_compare_179 : decode cX3_compare 179 = .ok (.aload_n 0, 1) := by decide +kernel
theorem dX3_compare_180 : decode cX3_compare 180 = .ok (.iload_n 2, 1) := by decide +kernel
theorem dX3_compare_181 : decode cX3_compare 181 = .ok (.putfield 82, 3) := by decide +kernel
theorem dX3_compare_184 : decode cX3_compare 184 = .ok (.aload_n 0, 1) := by decide +kernel
theorem dX3_compare_185 : decode cX3_compare 185 = .ok (.iload_n 1, 1) := by decide +kernel
theorem dX3_compare_186 : decode cX3_compare 186 = .ok (.putfield 131, 3) := by decide +kernel
theorem dX3_compare_189 : decode cX3_compare 189 = .ok (.aload_n 0, 1) := by decide +kernel
theorem dX3_compare_190 : decode cX3_compare 190 = .ok (.getfield 25, 3) := by decide +kernel
theorem dX3_compare_193 : decode cX3_compare 193 = .ok (.iconst 0, 1) := by decide +kernel
theorem dX3_compare_194 : decode cX3_compare 194 = .ok (.aload_n 0, 1) := by decide +kernel
theorem dX3_compare_195 : decode cX3_compare 195 = .ok (.getfield 29, 3) := by decide +kernel
theorem dX3_compare_198 : decode cX3_compare 198 = .ok (.iconst 0, 1) := by decide +kernel
theorem dX3_compare_199 : decode cX3_compare 199 = .ok (.iconst 3, 1) := by decide +kernel
theorem dX3_compare_200 : decode cX3_compare 200 = .ok (.invokestatic 134, 3) := by decide +kernel
theorem dX3_compare_203 : decode cX3_compare 203 = .ok (.return_, 1) := by decide +kernel
theorem dX3_write_0 : decode cX3_write 0 = .ok (.aload_n 1, 1) := by decide +kernel
theorem dX3_write_1 : decode cX3_write 1 = .ok (.aload_n 0, 1) := by decide +kernel
theorem dX3_write_2 : decode cX3_write 2 = .ok (.getfield 82, 3) := by decide +kernel
theorem dX3_write_5 : decode cX3_write 5 = .ok (.putfield 140, 3) := by decide +kernel
theorem dX3_write_8 : decode cX3_write 8 = .ok (.aload_n 1, 1) := by decide +kernel
theorem dX3_write_9 : decode cX3_write 9 = .ok (.aload_n 0, 1) := by decide +kernel
theorem dX3_write_10 : decode cX3_write 10 = .ok (.getfield 131, 3) := by decide +kernel
theorem dX3_write_13 : decode cX3_write 13 = .ok (.putfield 143, 3) := by decide +kernel
theorem dX3_write_16 : decode cX3_write 16 = .ok (.aload_n 1, 1) := by decide +kernel
theorem dX3_write_17 : decode cX3_write 17 = .ok (.iconst 0, 1) := by decide +kernel
theorem dX3_write_18 : decode cX3_write 18 = .ok (.putfield 146, 3) := by decide +kernel
theorem dX3_write_21 : decode cX3_write 21 = .ok (.iconst 0, 1) := by decide +kernel
theorem dX3_write_22 : decode cX3_write 22 = .ok (.istore_n 2, 1) := by decide +kernel
theorem dX3_write_23 : decode cX3_write 23 = .ok (.iload_n 2, 1) := by decide +kernel
theorem dX3_write_24 : decode cX3_write 24 = .ok (.aload_n 0, 1) := by decide +kernel
theorem dX3_write_25 : decode cX3_write 25 = .ok (.getfield 131, 3) := by decide +kernel
theorem dX3_write_28 : decode cX3_write 28 = .ok (.if_icmp .ge 75, 3) := by decide +kernel
theorem dX3_write_31 : decode cX3_write 31 = .ok (.aload_n 0, 1) := by decide +kernel
theorem dX3_write_32 : decode cX3_write 32 = .ok (.getfield 29, 3) := by decide +kernel
theorem dX3_write_35 : decode cX3_write 35 = .ok (.iload_n 2, 1) := by decide +kernel
theorem dX3_write_36 : decode cX3_write 36 = .ok (.iaload, 1) := by decide +kernel
theorem dX3_write_37 : decode cX3_write 37 = .ok (.istore_n 3, 1) := by decide +kernel
theorem dX3_write_38 : decode cX3_write 38 = .ok (.iconst 0, 1) := by decide +kernel
theorem dX3_write_39 : decode cX3_write 39 = .ok (.istore 4, 2) := by decide +kernel
theorem dX3_write_41 : decode cX3_write 41 = .ok (.iload 4, 2) := by decide +kernel
theorem dX3_write_43 : decode cX3_write 43 = .ok (.bipush 7, 2) := by decide +kernel
theorem dX3_write_45 : decode cX3_write 45 = .ok (.if_icmp .ge 52, 3) := by decide +kernel
theorem dX3_write_48 : decode cX3_write 48 = .ok (.iload_n 3, 1) := by decide +kernel
theorem dX3_write_49 : decode cX3_write 49 = .ok (.iload 4, 2) := by decide +kernel
theorem dX3_write_51 : decode cX3_write 51 = .ok (.ishr, 1) := by decide +kernel
theorem dX3_write_52 : decode cX3_write 52 = .ok (.iconst 1, 1) := by decide +kernel
theorem dX3_write_53 : decode cX3_write 53 = .ok (.iand, 1) := by decide +kernel
theorem dX3_write_54 : decode cX3_write 54 = .ok (.ifCond .eq 37, 3) := by decide +kernel
theorem dX3_write_57 : decode cX3_write 57 = .ok (.aload_n 1, 1) := by decide +kernel
theorem dX3_write_58 : decode cX3_write 58 = .ok (.getfield 149, 3) := by decide +kernel
theorem dX3_write_61 : decode cX3_write 61 = .ok (.iload 4, 2) := by decide +kernel
theorem dX3_write_63 : decode cX3_write 63 = .ok (.iload_n 2, 1) := by decide +kernel
theorem dX3_write_64 : decode cX3_write 64 = .ok (.iastore, 1) := by decide +kernel
theorem dX3_write_65 : decode cX3_write 65 = .ok (.aload_n 1, 1) := by decide +kernel
theorem dX3_write_66 : decode cX3_write 66 = .ok (.getfield 151, 3) := by decide +kernel
theorem dX3_write_69 : decode cX3_write 69 = .ok (.iload 4, 2) := by decide +kernel
theorem dX3_write_71 : decode cX3_write 71 = .ok (.aload_n 0, 1) := by decide +kernel
theorem dX3_write_72 : decode cX3_write 72 = .ok (.getfield 22, 3) := by decide +kernel
theorem dX3_write_75 : decode cX3_write 75 = .ok (.aload_n 0, 1) := by decide +kernel
theorem dX3_write_76 : decode cX3_write 76 = .ok (.getfield 70, 3) := by decide +kernel
theorem dX3_write_79 : decode cX3_write 79 = .ok (.aaload, 1) := by decide +kernel
theorem dX3_write_80 : decode cX3_write 80 = .ok (.iload_n 3, 1) := by decide +kernel
theorem dX3_write_81 : decode cX3_write 81 = .ok (.iaload, 1) := by decide +kernel
theorem dX3_write_82 : decode cX3_write 82 = .ok (.iload 4, 2) := by decide +kernel
theorem dX3_write_84 : decode cX3_write 84 = .ok (.iconst 3, 1) := by decide +kernel
theorem dX3_write_85 : decode cX3_write 85 = .ok (.imul, 1) := by decide +kernel
theorem dX3_write_86 : decode cX3_write 86 = .ok (.ishr, 1) := by decide +kernel
theorem dX3_write_87 : decode cX3_write 87 = .ok (.bipush 7, 2) := by decide +kernel
theorem dX3_write_89 : decode cX3_write 89 = .ok (.iand, 1) := by decide +kernel
theorem dX3_write_90 : decode cX3_write 90 = .ok (.iastore, 1) := by decide +kernel
theorem dX3_write_91 : decode cX3_write 91 = .ok (.iinc 4 1, 3) := by decide +kernel
theorem dX3_write_94 : decode cX3_write 94 = .ok (.goto (-53), 3) := by decide +kernel
theorem dX3_write_97 : decode cX3_write 97 = .ok (.iinc 2 1, 3) := by decide +kernel
theorem dX3_write_100 : decode cX3_write 100 = .ok (.goto (-77), 3) := by decide +kernel
theorem dX3_write_103 : decode cX3_write 103 = .ok (.iconst 0, 1) := by decide +kernel
theorem dX3_write_104 : decode cX3_write 104 = .ok (.istore_n 2, 1) := by decide +kernel
theorem dX3_write_105 : decode cX3_write 105 = .ok (.iload_n 2, 1) := by decide +kernel
theorem dX3_write_106 : decode cX3_write 106 = .ok (.aload_n 0, 1) := by decide +kernel
theorem dX3_write_107 : decode cX3_write 107 = .ok (.getfield 131, 3) := by decide +kernel
theorem dX3_write_110 : decode cX3_write 110 = .ok (.if_icmp .ge 32, 3) := by decide +kernel
theorem dX3_write_113 : decode cX3_write 113 = .ok (.aload_n 1, 1) := by decide +kernel
theorem dX3_write_114 : decode cX3_write 114 = .ok (.dup, 1) := by decide +kernel
theorem dX3_write_115 : decode cX3_write 115 = .ok (.getfield 146, 3) := by decide +kernel
theorem dX3_write_118 : decode cX3_write 118 = .ok (.aload_n 0, 1) := by decide +kernel
theorem dX3_write_119 : decode cX3_write 119 = .ok (.aload_n 0, 1) := by decide +kernel
theorem dX3_write_120 : decode cX3_write 120 = .ok (.getfield 29, 3) := by decide +kernel
theorem dX3_write_123 : decode cX3_write 123 = .ok (.iload_n 2, 1) := by decide +kernel
theorem dX3_write_124 : decode cX3_write 124 = .ok (.iaload, 1) := by decide +kernel
theorem dX3_write_125 : decode cX3_write 125 = .ok (.aload_n 1, 1) := by decide +kernel
theorem dX3_write_126 : decode cX3_write 126 = .ok (.getfield 151, 3) := by decide +kernel
theorem dX3_write_129 : decode cX3_write 129 = .ok (.invokevirtual 154, 3) := by decide +kernel
theorem dX3_write_132 : decode cX3_write 132 = .ok (.ior, 1) := by decide +kernel
theorem dX3_write_133 : decode cX3_write 133 = .ok (.putfield 146, 3) := by decide +kernel
theorem dX3_write_136 : decode cX3_write 136 = .ok (.iinc 2 1, 3) := by decide +kernel
theorem dX3_write_139 : decode cX3_write 139 = .ok (.goto (-34), 3) := by decide +kernel
theorem dX3_write_142 : decode cX3_write 142 = .ok (.return_, 1) := by decide +kernel
theorem dX3_turnedIn_0 : decode cX3_turnedIn 0 = .ok (.aload_n 0, 1) := by decide +kernel
theorem dX3_turnedIn_1 : decode cX3_turnedIn 1 = .ok (.getfield 79, 3) := by decide +kernel
theorem dX3_turnedIn_4 : decode cX3_turnedIn 4 = .ok (.istore_n 3, 1) := by decide +kernel
theorem dX3_turnedIn_5 : decode cX3_turnedIn 5 = .ok (.iconst 0, 1) := by decide +kernel
theorem dX3_turnedIn_6 : decode cX3_turnedIn 6 = .ok (.istore 4, 2) := by decide +kernel
theorem dX3_turnedIn_8 : decode cX3_turnedIn 8 = .ok (.iconst 0, 1) := by decide +kernel
theorem dX3_turnedIn_9 : decode cX3_turnedIn 9 = .ok (.istore 5, 2) := by decide +kernel
theorem dX3_turnedIn_11 : decode cX3_turnedIn 11 = .ok (.iload 5, 2) := by decide +kernel
theorem dX3_turnedIn_13 : decode cX3_turnedIn 13 = .ok (.aload_n 0, 1) := by decide +kernel
theorem dX3_turnedIn_14 : decode cX3_turnedIn 14 = .ok (.getfield 35, 3) := by decide +kernel
theorem dX3_turnedIn_17 : decode cX3_turnedIn 17 = .ok (.getfield 158, 3) := by decide +kernel
theorem dX3_turnedIn_20 : decode cX3_turnedIn 20 = .ok (.if_icmp .ge 73, 3) := by decide +kernel
theorem dX3_turnedIn_23 : decode cX3_turnedIn 23 = .ok (.iconst 1, 1) := by decide +kernel
theorem dX3_turnedIn_24 : decode cX3_turnedIn 24 = .ok (.iload 5, 2) := by decide +kernel
theorem dX3_turnedIn_26 : decode cX3_turnedIn 26 = .ok (.ishl, 1) := by decide +kernel
theorem dX3_turnedIn_27 : decode cX3_turnedIn 27 = .ok (.istore 6, 2) := by decide +kernel
theorem dX3_turnedIn_29 : decode cX3_turnedIn 29 = .ok (.iload_n 3, 1) := by decide +kernel
theorem dX3_turnedIn_30 : decode cX3_turnedIn 30 = .ok (.iload 6, 2) := by decide +kernel
theorem dX3_turnedIn_32 : decode cX3_turnedIn 32 = .ok (.iand, 1) := by decide +kernel
theorem dX3_turnedIn_33 : decode cX3_turnedIn 33 = .ok (.ifCond .eq 54, 3) := by decide +kernel
theorem dX3_turnedIn_36 : decode cX3_turnedIn 36 = .ok (.iload_n 3, 1) := by decide +kernel
theorem dX3_turnedIn_37 : decode cX3_turnedIn 37 = .ok (.iload 6, 2) := by decide +kernel
theorem dX3_turnedIn_39 : decode cX3_turnedIn 39 = .ok (.iconst (-1), 1) := by decide +kernel
theorem dX3_turnedIn_40 : decode cX3_turnedIn 40 = .ok (.ixor, 1) := by decide +kernel
theorem dX3_turnedIn_41 : decode cX3_turnedIn 41 = .ok (.iand, 1) := by decide +kernel
theorem dX3_turnedIn_42 : decode cX3_turnedIn 42 = .ok (.istore_n 3, 1) := by decide +kernel
theorem dX3_turnedIn_43 : decode cX3_turnedIn 43 = .ok (.aload_n 0, 1) := by decide +kernel
theorem dX3_turnedIn_44 : decode cX3_turnedIn 44 = .ok (.getfield 39, 3) := by decide +kernel
theorem dX3_turnedIn_47 : decode cX3_turnedIn 47 = .ok (.aload_n 0, 1) := by decide +kernel
theorem dX3_turnedIn_48 : decode cX3_turnedIn 48 = .ok (.getfield 35, 3) := by decide +kernel
theorem dX3_turnedIn_51 : decode cX3_turnedIn 51 = .ok (.iload_n 1, 1) := by decide +kernel
theorem dX3_turnedIn_52 : decode cX3_turnedIn 52 = .ok (.iload_n 3, 1) := by decide +kernel
theorem dX3_turnedIn_53 : decode cX3_turnedIn 53 = .ok (.iload 4, 2) := by decide +kernel
theorem dX3_turnedIn_55 : decode cX3_turnedIn 55 = .ok (.invokevirtual 161, 3) := by decide +kernel
theorem dX3_turnedIn_58 : decode cX3_turnedIn 58 = .ok (.aload_n 0, 1) := by decide +kernel
theorem dX3_turnedIn_59 : decode cX3_turnedIn 59 = .ok (.getfield 39, 3) := by decide +kernel
theorem dX3_turnedIn_62 : decode cX3_turnedIn 62 = .ok (.aload_n 2, 1) := by decide +kernel
theorem dX3_turnedIn_63 : decode cX3_turnedIn 63 = .ok (.invokevirtual 167, 3) := by decide +kernel
theorem dX3_turnedIn_66 : decode cX3_turnedIn 66 = .ok (.aload_n 0, 1) := by decide +kernel
theorem dX3_turnedIn_67 : decode cX3_turnedIn 67 = .ok (.getfield 19, 3) := by decide +kernel
theorem dX3_turnedIn_70 : decode cX3_turnedIn 70 = .ok (.aload_n 0, 1) := by decide +kernel
theorem dX3_turnedIn_71 : decode cX3_turnedIn 71 = .ok (.getfield 70, 3) := by decide +kernel
theorem dX3_turnedIn_74 : decode cX3_turnedIn 74 = .ok (.aaload, 1) := by decide +kernel
theorem dX3_turnedIn_75 : decode cX3_turnedIn 75 = .ok (.iload_n 1, 1) := by decide +kernel
theorem dX3_turnedIn_76 : decode cX3_turnedIn 76 = .ok (.iaload, 1) := by decide +kernel
theorem dX3_turnedIn_77 : decode cX3_turnedIn 77 = .ok (.if_icmp .le 10, 3) := by decide +kernel
theorem dX3_turnedIn_80 : decode cX3_turnedIn 80 = .ok (.iload 4, 2) := by decide +kernel
theorem dX3_turnedIn_82 : decode cX3_turnedIn 82 = .ok (.iload 6, 2) := by decide +kernel
theorem dX3_turnedIn_84 : decode cX3_turnedIn 84 = .ok (.ior, 1) := by decide +kernel
theorem dX3_turnedIn_85 : decode cX3_turnedIn 85 = .ok (.istore 4, 2) := by decide +kernel
theorem dX3_turnedIn_87 : decode cX3_turnedIn 87 = .ok (.iinc 5 1, 3) := by decide +kernel
theorem dX3_turnedIn_90 : decode cX3_turnedIn 90 = .ok (.goto (-79), 3) := by decide +kernel
theorem dX3_turnedIn_93 : decode cX3_turnedIn 93 = .ok (.iload 4, 2) := by decide +kernel
theorem dX3_turnedIn_95 : decode cX3_turnedIn 95 = .ok (.ireturn, 1) := by decide +kernel
theorem dX4_init_0 : decode cX4_init 0 = .ok (.aload_n 0, 1) := by decide +kernel
theorem dX4_init_1 : decode cX4_init 1 = .ok (.invokespecial 3, 3) := by decide +kernel
theorem dX4_init_4 : decode cX4_init 4 = .ok (.aload_n 0, 1) := by decide +kernel
theorem dX4_init_5 : decode cX4_init 5 = .ok (.bipush 30, 2) := by decide +kernel
theorem dX4_init_7 : decode cX4_init 7 = .ok (.newarray .int, 2) := by decide +kernel
theorem dX4_init_9 : decode cX4_init 9 = .ok (.putfield 9, 3) := by decide +kernel
theorem dX4_init_12 : decode cX4_init 12 = .ok (.return_, 1) := by decide +kernel
theorem dX4_look_0 : decode cX4_look 0 = .ok (.aload_n 0, 1) := by decide +kernel
theorem dX4_look_1 : decode cX4_look 1 = .ok (.iconst 0, 1) := by decide +kernel
theorem dX4_look_2 : decode cX4_look 2 = .ok (.putfield 15, 3) := by decide +kernel
theorem dX4_look_5 : decode cX4_look 5 = .ok (.iconst 0, 1) := by decide +kernel
theorem dX4_look_6 : decode cX4_look 6 = .ok (.istore_n 3, 1) := by decide +kernel
theorem dX4_look_7 : decode cX4_look 7 = .ok (.iload_n 3, 1) := by decide +kernel
theorem dX4_look_8 : decode cX4_look 8 = .ok (.aload_n 1, 1) := by decide +kernel
theorem dX4_look_9 : decode cX4_look 9 = .ok (.getfield 19, 3) := by decide +kernel
theorem dX4_look_12 : decode cX4_look 12 = .ok (.if_icmp .ge 91, 3) := by decide +kernel
theorem dX4_look_15 : decode cX4_look 15 = .ok (.iload_n 2, 1) := by decide +kernel
theorem dX4_look_16 : decode cX4_look 16 = .ok (.iload_n 3, 1) := by decide +kernel
theorem dX4_look_17 : decode cX4_look 17 = .ok (.ishr, 1) := by decide +kernel
theorem dX4_look_18 : decode cX4_look 18 = .ok (.iconst 1, 1) := by decide +kernel
theorem dX4_look_19 : decode cX4_look 19 = .ok (.iand, 1) := by decide +kernel
theorem dX4_look_20 : decode cX4_look 20 = .ok (.ifCond .eq 7, 3) := by decide +kernel
theorem dX4_look_23 : decode cX4_look 23 = .ok (.iconst 1, 1) := by decide +kernel
theorem dX4_look_24 : decode cX4_look 24 = .ok (.goto 4, 3) := by decide +kernel
theorem dX4_look_27 : decode cX4_look 27 = .ok (.iconst 0, 1) := by decide +kernel
theorem dX4_look_28 : decode cX4_look 28 = .ok (.istore 4, 2) := by decide +kernel
theorem dX4_look_30 : decode cX4_look 30 = .ok (.aload_n 0, 1) := by decide +kernel
theorem dX4_look_31 : decode cX4_look 31 = .ok (.iload 4, 2) := by decide +kernel
theorem dX4_look_33 : decode cX4_look 33 = .ok (.ifCond .eq 12, 3) := by decide +kernel
theorem dX4_look_36 : decode cX4_look 36 = .ok (.aload_n 1, 1) := by decide +kernel
theorem dX4_look_37 : decode cX4_look 37 = .ok (.getfield 24, 3) := by decide +kernel
theorem dX4_look_40 : decode cX4_look 40 = .ok (.iload_n 3, 1) := by decide +kernel
theorem dX4_look_41 : decode cX4_look 41 = .ok (.iaload, 1) := by decide +kernel
theorem dX4_look_42 : decode cX4_look 42 = .ok (.goto 9, 3) := by decide +kernel
theorem dX4_look_45 : decode cX4_look 45 = .ok (.aload_n 1, 1) := by decide +kernel
theorem dX4_look_46 : decode cX4_look 46 = .ok (.getfield 27, 3) := by decide +kernel
theorem dX4_look_49 : decode cX4_look 49 = .ok (.iload_n 3, 1) := by decide +kernel
theorem dX4_look_50 : decode cX4_look 50 = .ok (.iaload, 1) := by decide +kernel
theorem dX4_look_51 : decode cX4_look 51 = .ok (.invokevirtual 30, 3) := by decide +kernel
theorem dX4_look_54 : decode cX4_look 54 = .ok (.aload_n 1, 1) := by decide +kernel
theorem dX4_look_55 : decode cX4_look 55 = .ok (.getfield 34, 3) := by decide +kernel
theorem dX4_look_58 : decode cX4_look 58 = .ok (.iload_n 3, 1) := by decide +kernel
theorem dX4_look_59 : decode cX4_look 59 = .ok (.iaload, 1) := by decide +kernel
theorem dX4_look_60 : decode cX4_look 60 = .ok (.ifCond .eq 27, 3) := by decide +kernel
theorem dX4_look_63 : decode cX4_look 63 = .ok (.aload_n 0, 1) := by decide +kernel
theorem dX4_look_64 : decode cX4_look 64 = .ok (.iload 4, 2) := by decide +kernel
theorem dX4_look_66 : decode cX4_look 66 = .ok (.ifCond .eq 12, 3) := by decide +kernel
theorem dX4_look_69 : decode cX4_look 69 = .ok (.aload_n 1, 1) := by decide +kernel
theorem dX4_look_70 : decode cX4_look 70 = .ok (.getfield 27, 3) := by decide +kernel
theorem dX4_look_73 : decode cX4_look 73 = .ok (.iload_n 3, 1) := by decide +kernel
theorem dX4_look_74 : decode cX4_look 74 = .ok (.iaload, 1) := by decide +kernel
theorem dX4_look_75 : decode cX4_look 75 = .ok (.goto 9, 3) := by decide +kernel
theorem dX4_look_78 : decode cX4_look 78 = .ok (.aload_n 1, 1) := by decide +kernel
theorem dX4_look_79 : decode cX4_look 79 = .ok (.getfield 24, 3) := by decide +kernel
theorem dX4_look_82 : decode cX4_look 82 = .ok (.iload_n 3, 1) := by decide +kernel
theorem dX4_look_83 : decode cX4_look 83 = .ok (.iaload, 1) := by decide +kernel
theorem dX4_look_84 : decode cX4_look 84 = .ok (.invokevirtual 30, 3) := by decide +kernel
theorem dX4_look_87 : decode cX4_look 87 = .ok (.aload_n 0, 1) := by decide +kernel
theorem dX4_look_88 : decode cX4_look 88 = .ok (.aload_n 1, 1) := by decide +kernel
theorem dX4_look_89 : decode cX4_look 89 = .ok (.getfield 37, 3) := by decide +kernel
theorem dX4_look_92 : decode cX4_look 92 = .ok (.iload_n 3, 1) := by decide +kernel
theorem dX4_look_93 : decode cX4_look 93 = .ok (.iaload, 1) := by decide +kernel
theorem dX4_look_94 : decode cX4_look 94 = .ok (.invokevirtual 30, 3) := by decide +kernel
theorem dX4_look_97 : decode cX4_look 97 = .ok (.iinc 3 1, 3) := by decide +kernel
theorem dX4_look_100 : decode cX4_look 100 = .ok (.goto (-93), 3) := by decide +kernel
theorem dX4_look_103 : decode cX4_look 103 = .ok (.return_, 1) := by decide +kernel
theorem dX4_has_0 : decode cX4_has 0 = .ok (.iload_n 1, 1) := by decide +kernel
theorem dX4_has_1 : decode cX4_has 1 = .ok (.ifCond .lt 15, 3) := by decide +kernel
theorem dX4_has_4 : decode cX4_has 4 = .ok (.iload_n 1, 1) := by decide +kernel
theorem dX4_has_5 : decode cX4_has 5 = .ok (.aload_n 0, 1) := by decide +kernel
theorem dX4_has_6 : decode cX4_has 6 = .ok (.getfield 15, 3) := by decide +kernel
theorem dX4_has_9 : decode cX4_has 9 = .ok (.if_icmp .ge 7, 3) := by decide +kernel
theorem dX4_has_12 : decode cX4_has 12 = .ok (.iconst 1, 1) := by decide +kernel
theorem dX4_has_13 : decode cX4_has 13 = .ok (.goto 4, 3) := by decide +kernel
theorem dX4_has_16 : decode cX4_has 16 = .ok (.iconst 0, 1) := by decide +kernel
theorem dX4_has_17 : decode cX4_has 17 = .ok (.ireturn, 1) := by decide +kernel
theorem dX4_before_0 : decode cX4_before 0 = .ok (.aload_n 2, 1) := by decide +kernel
theorem dX4_before_1 : decode cX4_before 1 = .ok (.aload_n 0, 1) := by decide +kernel
theorem dX4_before_2 : decode cX4_before 2 = .ok (.getfield 9, 3) := by decide +kernel
theorem dX4_before_5 : decode cX4_before 5 = .ok (.iload_n 1, 1) := by decide +kernel
theorem dX4_before_6 : decode cX4_before 6 = .ok (.iaload, 1) := by decide +kernel
theorem dX4_before_7 : decode cX4_before 7 = .ok (.iaload, 1) := by decide +kernel
theorem dX4_before_8 : decode cX4_before 8 = .ok (.istore_n 3, 1) := by decide +kernel
theorem dX4_before_9 : decode cX4_before 9 = .ok (.iload_n 1, 1) := by decide +kernel
theorem dX4_before_10 : decode cX4_before 10 = .ok (.iconst 1, 1) := by decide +kernel
theorem dX4_before_11 : decode cX4_before 11 = .ok (.isub, 1) := by decide +kernel
theorem dX4_before_12 : decode cX4_before 12 = .ok (.istore 4, 2) := by decide +kernel
theorem dX4_before_14 : decode cX4_before 14 = .ok (.iload 4, 2) := by decide +kernel
theorem dX4_before_16 : decode cX4_before 16 = .ok (.ifCond .lt 30, 3) := by decide +kernel
theorem dX4_before_19 : decode cX4_before 19 = .ok (.aload_n 2, 1) := by decide +kernel
theorem dX4_before_20 : decode cX4_before 20 = .ok (.aload_n 0, 1) := by decide +kernel
theorem dX4_before_21 : decode cX4_before 21 = .ok (.getfield 9, 3) := by decide +kernel
theorem dX4_before_24 : decode cX4_before 24 = .ok (.iload 4, 2) := by decide +kernel
theorem dX4_before_26 : decode cX4_before 26 = .ok (.iaload, 1) := by decide +kernel
theorem dX4_before_27 : decode cX4_before 27 = .ok (.iaload, 1) := by decide +kernel
theorem dX4_before_28 : decode cX4_before 28 = .ok (.iload_n 3, 1) := by decide +kernel
theorem dX4_before_29 : decode cX4_before 29 = .ok (.if_icmp .ne 11, 3) := by decide +kernel
theorem dX4_before_32 : decode cX4_before 32 = .ok (.aload_n 0, 1) := by decide +kernel
theorem dX4_before_33 : decode cX4_before 33 = .ok (.getfield 9, 3) := by decide +kernel
theorem dX4_before_36 : decode cX4_before 36 = .ok (.iload 4, 2) := by decide +kernel
theorem dX4_before_38 : decode cX4_before 38 = .ok (.iaload, 1) := by decide +kernel
theorem dX4_before_39 : decode cX4_before 39 = .ok (.ireturn, 1) := by decide +kernel
theorem dX4_before_40 : decode cX4_before 40 = .ok (.iinc 4 (-1), 3) := by decide +kernel
theorem dX4_before_43 : decode cX4_before 43 = .ok (.goto (-29), 3) := by decide +kernel
theorem dX4_before_46 : decode cX4_before 46 = .ok (.iconst (-1), 1) := by decide +kernel
theorem dX4_before_47 : decode cX4_before 47 = .ok (.ireturn, 1) := by decide +kernel
theorem dX4_add_0 : decode cX4_add 0 = .ok (.aload_n 0, 1) := by decide +kernel
theorem dX4_add_1 : decode cX4_add 1 = .ok (.getfield 9, 3) := by decide +kernel
theorem dX4_add_4 : decode cX4_add 4 = .ok (.aload_n 0, 1) := by decide +kernel
theorem dX4_add_5 : decode cX4_add 5 = .ok (.getfield 15, 3) := by decide +kernel
theorem dX4_add_8 : decode cX4_add 8 = .ok (.iload_n 1, 1) := by decide +kernel
theorem dX4_add_9 : decode cX4_add 9 = .ok (.iastore, 1) := by decide +kernel
theorem dX4_add_10 : decode cX4_add 10 = .ok (.aload_n 0, 1) := by decide +kernel
theorem dX4_add_11 : decode cX4_add 11 = .ok (.dup, 1) := by decide +kernel
theorem dX4_add_12 : decode cX4_add 12 = .ok (.getfield 15, 3) := by decide +kernel
theorem dX4_add_15 : decode cX4_add 15 = .ok (.iconst 1, 1) := by decide +kernel
theorem dX4_add_16 : decode cX4_add 16 = .ok (.iadd, 1) := by decide +kernel
theorem dX4_add_17 : decode cX4_add 17 = .ok (.putfield 15, 3) := by decide +kernel
theorem dX4_add_20 : decode cX4_add 20 = .ok (.return_, 1) := by decide +kernel
theorem dX5_init_0 : decode cX5_init 0 = .ok (.aload_n 0, 1) := by decide +kernel
theorem dX5_init_1 : decode cX5_init 1 = .ok (.invokespecial 3, 3) := by decide +kernel
theorem dX5_init_4 : decode cX5_init 4 = .ok (.aload_n 0, 1) := by decide +kernel
theorem dX5_init_5 : decode cX5_init 5 = .ok (.bipush 10, 2) := by decide +kernel
theorem dX5_init_7 : decode cX5_init 7 = .ok (.newarray .int, 2) := by decide +kernel
theorem dX5_init_9 : decode cX5_init 9 = .ok (.putfield 9, 3) := by decide +kernel
theorem dX5_init_12 : decode cX5_init 12 = .ok (.aload_n 0, 1) := by decide +kernel
theorem dX5_init_13 : decode cX5_init 13 = .ok (.bipush 10, 2) := by decide +kernel
theorem dX5_init_15 : decode cX5_init 15 = .ok (.newarray .int, 2) := by decide +kernel
theorem dX5_init_17 : decode cX5_init 17 = .ok (.putfield 15, 3) := by decide +kernel
theorem dX5_init_20 : decode cX5_init 20 = .ok (.aload_n 0, 1) := by decide +kernel
theorem dX5_init_21 : decode cX5_init 21 = .ok (.bipush 10, 2) := by decide +kernel
theorem dX5_init_23 : decode cX5_init 23 = .ok (.newarray .int, 2) := by decide +kernel
theorem dX5_init_25 : decode cX5_init 25 = .ok (.putfield 18, 3) := by decide +kernel
theorem dX5_init_28 : decode cX5_init 28 = .ok (.aload_n 0, 1) := by decide +kernel
theorem dX5_init_29 : decode cX5_init 29 = .ok (.bipush 10, 2) := by decide +kernel
theorem dX5_init_31 : decode cX5_init 31 = .ok (.newarray .int, 2) := by decide +kernel
theorem dX5_init_33 : decode cX5_init 33 = .ok (.putfield 21, 3) := by decide +kernel
theorem dX5_init_36 : decode cX5_init 36 = .ok (.aload_n 0, 1) := by decide +kernel
theorem dX5_init_37 : decode cX5_init 37 = .ok (.iconst 2, 1) := by decide +kernel
theorem dX5_init_38 : decode cX5_init 38 = .ok (.putfield 24, 3) := by decide +kernel
theorem dX5_init_41 : decode cX5_init 41 = .ok (.aload_n 0, 1) := by decide +kernel
theorem dX5_init_42 : decode cX5_init 42 = .ok (.bipush 7, 2) := by decide +kernel
theorem dX5_init_44 : decode cX5_init 44 = .ok (.newarray .int, 2) := by decide +kernel
theorem dX5_init_46 : decode cX5_init 46 = .ok (.putfield 28, 3) := by decide +kernel
theorem dX5_init_49 : decode cX5_init 49 = .ok (.aload_n 0, 1) := by decide +kernel
theorem dX5_init_50 : decode cX5_init 50 = .ok (.bipush 7, 2) := by decide +kernel
theorem dX5_init_52 : decode cX5_init 52 = .ok (.newarray .int, 2) := by decide +kernel
theorem dX5_init_54 : decode cX5_init 54 = .ok (.putfield 31, 3) := by decide +kernel
theorem dX5_init_57 : decode cX5_init 57 = .ok (.iconst 0, 1) := by decide +kernel
theorem dX5_init_58 : decode cX5_init 58 = .ok (.istore_n 1, 1) := by decide +kernel
theorem dX5_init_59 : decode cX5_init 59 = .ok (.iload_n 1, 1) := by decide +kernel
theorem dX5_init_60 : decode cX5_init 60 = .ok (.bipush 7, 2) := by decide +kernel
theorem dX5_init_62 : decode cX5_init 62 = .ok (.if_icmp .ge 16, 3) := by decide +kernel
theorem dX5_init_65 : decode cX5_init 65 = .ok (.aload_n 0, 1) := by decide +kernel
theorem dX5_init_66 : decode cX5_init 66 = .ok (.getfield 31, 3) := by decide +kernel
theorem dX5_init_69 : decode cX5_init 69 = .ok (.iload_n 1, 1) := by decide +kernel
theorem dX5_init_70 : decode cX5_init 70 = .ok (.iload_n 1, 1) := by decide +kernel
theorem dX5_init_71 : decode cX5_init 71 = .ok (.iastore, 1) := by decide +kernel
theorem dX5_init_72 : decode cX5_init 72 = .ok (.iinc 1 1, 3) := by decide +kernel
theorem dX5_init_75 : decode cX5_init 75 = .ok (.goto (-16), 3) := by decide +kernel
theorem dX5_init_78 : decode cX5_init 78 = .ok (.return_, 1) := by decide +kernel
theorem dX5_has_0 : decode cX5_has 0 = .ok (.iload_n 1, 1) := by decide +kernel
theorem dX5_has_1 : decode cX5_has 1 = .ok (.ifCond .lt 15, 3) := by decide +kernel
theorem dX5_has_4 : decode cX5_has 4 = .ok (.iload_n 1, 1) := by decide +kernel
theorem dX5_has_5 : decode cX5_has 5 = .ok (.aload_n 0, 1) := by decide +kernel
theorem dX5_has_6 : decode cX5_has 6 = .ok (.getfield 34, 3) := by decide +kernel
theorem dX5_has_9 : decode cX5_has 9 = .ok (.if_icmp .ge 7, 3) := by decide +kernel
theorem dX5_has_12 : decode cX5_has 12 = .ok (.iconst 1, 1) := by decide +kernel
theorem dX5_has_13 : decode cX5_has 13 = .ok (.goto 4, 3) := by decide +kernel
theorem dX5_has_16 : decode cX5_has 16 = .ok (.iconst 0, 1) := by decide +kernel
theorem dX5_has_17 : decode cX5_has 17 = .ok (.ireturn, 1) := by decide +kernel
theorem dX5_append_0 : decode cX5_append 0 = .ok (.aload_n 0, 1) := by decide +kernel
theorem dX5_append_1 : decode cX5_append 1 = .ok (.getfield 9, 3) := by decide +kernel
theorem dX5_append_4 : decode cX5_append 4 = .ok (.aload_n 0, 1) := by decide +kernel
theorem dX5_append_5 : decode cX5_append 5 = .ok (.getfield 34, 3) := by decide +kernel
theorem dX5_append_8 : decode cX5_append 8 = .ok (.iload_n 1, 1) := by decide +kernel
theorem dX5_append_9 : decode cX5_append 9 = .ok (.iastore, 1) := by decide +kernel
theorem dX5_append_10 : decode cX5_append 10 = .ok (.aload_n 0, 1) := by decide +kernel
theorem dX5_append_11 : decode cX5_append 11 = .ok (.getfield 15, 3) := by decide +kernel
theorem dX5_append_14 : decode cX5_append 14 = .ok (.aload_n 0, 1) := by decide +kernel
theorem dX5_append_15 : decode cX5_append 15 = .ok (.getfield 34, 3) := by decide +kernel
theorem dX5_append_18 : decode cX5_append 18 = .ok (.iload_n 2, 1) := by decide +kernel
theorem dX5_append_19 : decode cX5_append 19 = .ok (.iastore, 1) := by decide +kernel
theorem dX5_append_20 : decode cX5_append 20 = .ok (.aload_n 0, 1) := by decide +kernel
theorem dX5_append_21 : decode cX5_append 21 = .ok (.getfield 18, 3) := by decide +kernel
theorem dX5_append_24 : decode cX5_append 24 = .ok (.aload_n 0, 1) := by decide +kernel
theorem dX5_append_25 : decode cX5_append 25 = .ok (.getfield 34, 3) := by decide +kernel
theorem dX5_append_28 : decode cX5_append 28 = .ok (.iload_n 3, 1) := by decide +kernel
theorem dX5_append_29 : decode cX5_append 29 = .ok (.iastore, 1) := by decide +kernel
theorem dX5_append_30 : decode cX5_append 30 = .ok (.aload_n 0, 1) := by decide +kernel
theorem dX5_append_31 : decode cX5_append 31 = .ok (.getfield 21, 3) := by decide +kernel
theorem dX5_append_34 : decode cX5_append 34 = .ok (.aload_n 0, 1) := by decide +kernel
theorem dX5_append_35 : decode cX5_append 35 = .ok (.getfield 34, 3) := by decide +kernel
theorem dX5_append_38 : decode cX5_append 38 = .ok (.iload 4, 2) := by decide +kernel
theorem dX5_append_40 : decode cX5_append 40 = .ok (.iastore, 1) := by decide +kernel
theorem dX5_append_41 : decode cX5_append 41 = .ok (.aload_n 0, 1) := by decide +kernel
theorem dX5_append_42 : decode cX5_append 42 = .ok (.dup, 1) := by decide +kernel
theorem dX5_append_43 : decode cX5_append 43 = .ok (.getfield 34, 3) := by decide +kernel
theorem dX5_append_46 : decode cX5_append 46 = .ok (.iconst 1, 1) := by decide +kernel
theorem dX5_append_47 : decode cX5_append 47 = .ok (.iadd, 1) := by decide +kernel
theorem dX5_append_48 : decode cX5_append 48 = .ok (.putfield 34, 3) := by decide +kernel
theorem dX5_append_51 : decode cX5_append 51 = .ok (.return_, 1) := by decide +kernel
theorem dX5_remove_0 : decode cX5_remove 0 = .ok (.aload_n 0, 1) := by decide +kernel
theorem dX5_remove_1 : decode cX5_remove 1 = .ok (.dup, 1) := by decide +kernel
theorem dX5_remove_2 : decode cX5_remove 2 = .ok (.getfield 34, 3) := by decide +kernel
theorem dX5_remove_5 : decode cX5_remove 5 = .ok (.iconst 1, 1) := by decide +kernel
theorem dX5_remove_6 : decode cX5_remove 6 = .ok (.isub, 1) := by decide +kernel
theorem dX5_remove_7 : decode cX5_remove 7 = .ok (.putfield 34, 3) := by decide +kernel
theorem dX5_remove_10 : decode cX5_remove 10 = .ok (.aload_n 0, 1) := by decide +kernel
theorem dX5_remove_11 : decode cX5_remove 11 = .ok (.getfield 34, 3) := by decide +kernel
theorem dX5_remove_14 : decode cX5_remove 14 = .ok (.iload_n 1, 1) := by decide +kernel
theorem dX5_remove_15 : decode cX5_remove 15 = .ok (.isub, 1) := by decide +kernel
theorem dX5_remove_16 : decode cX5_remove 16 = .ok (.istore_n 2, 1) := by decide +kernel
theorem dX5_remove_17 : decode cX5_remove 17 = .ok (.aload_n 0, 1) := by decide +kernel
theorem dX5_remove_18 : decode cX5_remove 18 = .ok (.getfield 9, 3) := by decide +kernel
theorem dX5_remove_21 : decode cX5_remove 21 = .ok (.iload_n 1, 1) := by decide +kernel
theorem dX5_remove_22 : decode cX5_remove 22 = .ok (.iconst 1, 1) := by decide +kernel
theorem dX5_remove_23 : decode cX5_remove 23 = .ok (.iadd, 1) := by decide +kernel
theorem dX5_remove_24 : decode cX5_remove 24 = .ok (.aload_n 0, 1) := by decide +kernel
theorem dX5_remove_25 : decode cX5_remove 25 = .ok (.getfield 9, 3) := by decide +kernel
theorem dX5_remove_28 : decode cX5_remove 28 = .ok (.iload_n 1, 1) := by decide +kernel
theorem dX5_remove_29 : decode cX5_remove 29 = .ok (.iload_n 2, 1) := by decide +kernel
theorem dX5_remove_30 : decode cX5_remove 30 = .ok (.invokestatic 37, 3) := by decide +kernel
theorem dX5_remove_33 : decode cX5_remove 33 = .ok (.aload_n 0, 1) := by decide +kernel
theorem dX5_remove_34 : decode cX5_remove 34 = .ok (.getfield 15, 3) := by decide +kernel
theorem dX5_remove_37 : decode cX5_remove 37 = .ok (.iload_n 1, 1) := by decide +kernel
theorem dX5_remove_38 : decode cX5_remove 38 = .ok (.iconst 1, 1) := by decide +kernel
theorem dX5_remove_39 : decode cX5_remove 39 = .ok (.iadd, 1) := by decide +kernel
theorem dX5_remove_40 : decode cX5_remove 40 = .ok (.aload_n 0, 1) := by decide +kernel
theorem dX5_remove_41 : decode cX5_remove 41 = .ok (.getfield 15, 3) := by decide +kernel
theorem dX5_remove_44 : decode cX5_remove 44 = .ok (.iload_n 1, 1) := by decide +kernel
theorem dX5_remove_45 : decode cX5_remove 45 = .ok (.iload_n 2, 1) := by decide +kernel
theorem dX5_remove_46 : decode cX5_remove 46 = .ok (.invokestatic 37, 3) := by decide +kernel
theorem dX5_remove_49 : decode cX5_remove 49 = .ok (.aload_n 0, 1) := by decide +kernel
theorem dX5_remove_50 : decode cX5_remove 50 = .ok (.getfield 18, 3) := by decide +kernel
theorem dX5_remove_53 : decode cX5_remove 53 = .ok (.iload_n 1, 1) := by decide +kernel
theorem dX5_remove_54 : decode cX5_remove 54 = .ok (.iconst 1, 1) := by decide +kernel
theorem dX5_remove_55 : decode cX5_remove 55 = .ok (.iadd, 1) := by decide +kernel
theorem dX5_remove_56 : decode cX5_remove 56 = .ok (.aload_n 0, 1) := by decide +kernel
theorem dX5_remove_57 : decode cX5_remove 57 = .ok (.getfield 18, 3) := by decide +kernel
theorem dX5_remove_60 : decode cX5_remove 60 = .ok (.iload_n 1, 1) := by decide +kernel
theorem dX5_remove_61 : decode cX5_remove 61 = .ok (.iload_n 2, 1) := by decide +kernel
theorem dX5_remove_62 : decode cX5_remove 62 = .ok (.invokestatic 37, 3) := by decide +kernel
theorem dX5_remove_65 : decode cX5_remove 65 = .ok (.aload_n 0, 1) := by decide +kernel
theorem dX5_remove_66 : decode cX5_remove 66 = .ok (.getfield 21, 3) := by decide +kernel
theorem dX5_remove_69 : decode cX5_remove 69 = .ok (.iload_n 1, 1) := by decide +kernel
theorem dX5_remove_70 : decode cX5_remove 70 = .ok (.iconst 1, 1) := by decide +kernel
theorem dX5_remove_71 : decode cX5_remove 71 = .ok (.iadd, 1) := by decide +kernel
theorem dX5_remove_72 : decode cX5_remove 72 = .ok (.aload_n 0, 1) := by decide +kernel
theorem dX5_remove_73 : decode cX5_remove 73 = .ok (.getfield 21, 3) := by decide +kernel
theorem dX5_remove_76 : decode cX5_remove 76 = .ok (.iload_n 1, 1) := by decide +kernel
theorem dX5_remove_77 : decode cX5_remove 77 = .ok (.iload_n 2, 1) := by decide +kernel
theorem dX5_remove_78 : decode cX5_remove 78 = .ok (.invokestatic 37, 3) := by decide +kernel
theorem dX5_remove_81 : decode cX5_remove 81 = .ok (.return_, 1) := by decide +kernel
theorem dX5_copyFrom_0 : decode cX5_copyFrom 0 = .ok (.aload_n 0, 1) := by decide +kernel
theorem dX5_copyFrom_1 : decode cX5_copyFrom 1 = .ok (.aload_n 1, 1) := by decide +kernel
theorem dX5_copyFrom_2 : decode cX5_copyFrom 2 = .ok (.getfield 34, 3) := by decide +kernel
theorem dX5_copyFrom_5 : decode cX5_copyFrom 5 = .ok (.putfield 34, 3) := by decide +kernel
theorem dX5_copyFrom_8 : decode cX5_copyFrom 8 = .ok (.aload_n 1, 1) := by decide +kernel
theorem dX5_copyFrom_9 : decode cX5_copyFrom 9 = .ok (.getfield 9, 3) := by decide +kernel
theorem dX5_copyFrom_12 : decode cX5_copyFrom 12 = .ok (.iconst 0, 1) := by decide +kernel
theorem dX5_copyFrom_13 : decode cX5_copyFrom 13 = .ok (.aload_n 0, 1) := by decide +kernel
theorem dX5_copyFrom_14 : decode cX5_copyFrom 14 = .ok (.getfield 9, 3) := by decide +kernel
theorem dX5_copyFrom_17 : decode cX5_copyFrom 17 = .ok (.iconst 0, 1) := by decide +kernel
theorem dX5_copyFrom_18 : decode cX5_copyFrom 18 = .ok (.bipush 10, 2) := by decide +kernel
theorem dX5_copyFrom_20 : decode cX5_copyFrom 20 = .ok (.invokestatic 37, 3) := by decide +kernel
theorem dX5_copyFrom_23 : decode cX5_copyFrom 23 = .ok (.aload_n 1, 1) := by decide +kernel
theorem dX5_copyFrom_24 : decode cX5_copyFrom 24 = .ok (.getfield 15, 3) := by decide +kernel
theorem dX5_copyFrom_27 : decode cX5_copyFrom 27 = .ok (.iconst 0, 1) := by decide +kernel
theorem dX5_copyFrom_28 : decode cX5_copyFrom 28 = .ok (.aload_n 0, 1) := by decide +kernel
theorem dX5_copyFrom_29 : decode cX5_copyFrom 29 = .ok (.getfield 15, 3) := by decide +kernel
theorem dX5_copyFrom_32 : decode cX5_copyFrom 32 = .ok (.iconst 0, 1) := by decide +kernel
theorem dX5_copyFrom_33 : decode cX5_copyFrom 33 = .ok (.bipush 10, 2) := by decide +kernel
theorem dX5_copyFrom_35 : decode cX5_copyFrom 35 = .ok (.invokestatic 37, 3) := by decide +kernel
theorem dX5_copyFrom_38 : decode cX5_copyFrom 38 = .ok (.aload_n 1, 1) := by decide +kernel
theorem dX5_copyFrom_39 : decode cX5_copyFrom 39 = .ok (.getfield 18, 3) := by decide +kernel
theorem dX5_copyFrom_42 : decode cX5_copyFrom 42 = .ok (.iconst 0, 1) := by decide +kernel
theorem dX5_copyFrom_43 : decode cX5_copyFrom 43 = .ok (.aload_n 0, 1) := by decide +kernel
theorem dX5_copyFrom_44 : decode cX5_copyFrom 44 = .ok (.getfield 18, 3) := by decide +kernel
theorem dX5_copyFrom_47 : decode cX5_copyFrom 47 = .ok (.iconst 0, 1) := by decide +kernel
theorem dX5_copyFrom_48 : decode cX5_copyFrom 48 = .ok (.bipush 10, 2) := by decide +kernel
theorem dX5_copyFrom_50 : decode cX5_copyFrom 50 = .ok (.invokestatic 37, 3) := by decide +kernel
theorem dX5_copyFrom_53 : decode cX5_copyFrom 53 = .ok (.aload_n 1, 1) := by decide +kernel
theorem dX5_copyFrom_54 : decode cX5_copyFrom 54 = .ok (.getfield 21, 3) := by decide +kernel
theorem dX5_copyFrom_57 : decode cX5_copyFrom 57 = .ok (.iconst 0, 1) := by decide +kernel
theorem dX5_copyFrom_58 : decode cX5_copyFrom 58 = .ok (.aload_n 0, 1) := by decide +kernel
theorem dX5_copyFrom_59 : decode cX5_copyFrom 59 = .ok (.getfield 21, 3) := by decide +kernel
theorem dX5_copyFrom_62 : decode cX5_copyFrom 62 = .ok (.iconst 0, 1) := by decide +kernel
theorem dX5_copyFrom_63 : decode cX5_copyFrom 63 = .ok (.bipush 10, 2) := by decide +kernel
theorem dX5_copyFrom_65 : decode cX5_copyFrom 65 = .ok (.invokestatic 37, 3) := by decide +kernel
theorem dX5_copyFrom_68 : decode cX5_copyFrom 68 = .ok (.aload_n 0, 1) := by decide +kernel
theorem dX5_copyFrom_69 : decode cX5_copyFrom 69 = .ok (.aload_n 1, 1) := by decide +kernel
theorem dX5_copyFrom_70 : decode cX5_copyFrom 70 = .ok (.getfield 24, 3) := by decide +kernel
theorem dX5_copyFrom_73 : decode cX5_copyFrom 73 = .ok (.putfield 24, 3) := by decide +kernel
theorem dX5_copyFrom_76 : decode cX5_copyFrom 76 = .ok (.aload_n 1, 1) := by decide +kernel
theorem dX5_copyFrom_77 : decode cX5_copyFrom 77 = .ok (.getfield 28, 3) := by decide +kernel
theorem dX5_copyFrom_80 : decode cX5_copyFrom 80 = .ok (.iconst 0, 1) := by decide +kernel
theorem dX5_copyFrom_81 : decode cX5_copyFrom 81 = .ok (.aload_n 0, 1) := by decide +kernel
theorem dX5_copyFrom_82 : decode cX5_copyFrom 82 = .ok (.getfield 28, 3) := by decide +kernel
theorem dX5_copyFrom_85 : decode cX5_copyFrom 85 = .ok (.iconst 0, 1) := by decide +kernel
theorem dX5_copyFrom_86 : decode cX5_copyFrom 86 = .ok (.bipush 7, 2) := by decide +kernel
theorem dX5_copyFrom_88 : decode cX5_copyFrom 88 = .ok (.invokestatic 37, 3) := by decide +kernel
theorem dX5_copyFrom_91 : decode cX5_copyFrom 91 = .ok (.aload_n 1, 1) := by decide +kernel
theorem dX5_copyFrom_92 : decode cX5_copyFrom 92 = .ok (.getfield 31, 3) := by decide +kernel
theorem dX5_copyFrom_95 : decode cX5_copyFrom 95 = .ok (.iconst 0, 1) := by decide +kernel
theorem dX5_copyFrom_96 : decode cX5_copyFrom 96 = .ok (.aload_n 0, 1) := by decide +kernel
theorem dX5_copyFrom_97 : decode cX5_copyFrom 97 = .ok (.getfield 31, 3) := by decide +kernel
theorem dX5_copyFrom_100 : decode cX5_copyFrom 100 = .ok (.iconst 0, 1) := by decide +kernel
theorem dX5_copyFrom_101 : decode cX5_copyFrom 101 = .ok (.bipush 7, 2) := by decide +kernel
theorem dX5_copyFrom_103 : decode cX5_copyFrom 103 = .ok (.invokestatic 37, 3) := by decide +kernel
theorem dX5_copyFrom_106 : decode cX5_copyFrom 106 = .ok (.return_, 1) := by decide +kernel
theorem dX5_usedSet_0 : decode cX5_usedSet 0 = .ok (.iconst 0, 1) := by decide +kernel
theorem dX5_usedSet_1 : decode cX5_usedSet 1 = .ok (.istore_n 1, 1) := by decide +kernel
theorem dX5_usedSet_2 : decode cX5_usedSet 2 = .ok (.iconst 0, 1) := by decide +kernel
theorem dX5_usedSet_3 : decode cX5_usedSet 3 = .ok (.istore_n 2, 1) := by decide +kernel
theorem dX5_usedSet_4 : decode cX5_usedSet 4 = .ok (.iload_n 2, 1) := by decide +kernel
theorem dX5_usedSet_5 : decode cX5_usedSet 5 = .ok (.aload_n 0, 1) := by decide +kernel
theorem dX5_usedSet_6 : decode cX5_usedSet 6 = .ok (.getfield 34, 3) := by decide +kernel
theorem dX5_usedSet_9 : decode cX5_usedSet 9 = .ok (.if_icmp .ge 38, 3) := by decide +kernel
theorem dX5_usedSet_12 : decode cX5_usedSet 12 = .ok (.iload_n 1, 1) := by decide +kernel
theorem dX5_usedSet_13 : decode cX5_usedSet 13 = .ok (.iconst 1, 1) := by decide +kernel
theorem dX5_usedSet_14 : decode cX5_usedSet 14 = .ok (.aload_n 0, 1) := by decide +kernel
theorem dX5_usedSet_15 : decode cX5_usedSet 15 = .ok (.getfield 15, 3) := by decide +kernel
theorem dX5_usedSet_18 : decode cX5_usedSet 18 = .ok (.iload_n 2, 1) := by decide +kernel
theorem dX5_usedSet_19 : decode cX5_usedSet 19 = .ok (.iaload, 1) := by decide +kernel
theorem dX5_usedSet_20 : decode cX5_usedSet 20 = .ok (.ishl, 1) := by decide +kernel
theorem dX5_usedSet_21 : decode cX5_usedSet 21 = .ok (.iconst 1, 1) := by decide +kernel
theorem dX5_usedSet_22 : decode cX5_usedSet 22 = .ok (.aload_n 0, 1) := by decide +kernel
theorem dX5_usedSet_23 : decode cX5_usedSet 23 = .ok (.getfield 18, 3) := by decide +kernel
theorem dX5_usedSet_26 : decode cX5_usedSet 26 = .ok (.iload_n 2, 1) := by decide +kernel
theorem dX5_usedSet_27 : decode cX5_usedSet 27 = .ok (.iaload, 1) := by decide +kernel
theorem dX5_usedSet_28 : decode cX5_usedSet 28 = .ok (.ishl, 1) := by decide +kernel
theorem dX5_usedSet_29 : decode cX5_usedSet 29 = .ok (.ior, 1) := by decide +kernel
theorem dX5_usedSet_30 : decode cX5_usedSet 30 = .ok (.iconst 1, 1) := by decide +kernel
theorem dX5_usedSet_31 : decode cX5_usedSet 31 = .ok (.aload_n 0, 1) := by decide +kernel
theorem dX5_usedSet_32 : decode cX5_usedSet 32 = .ok (.getfield 21, 3) := by decide +kernel
theorem dX5_usedSet_35 : decode cX5_usedSet 35 = .ok (.iload_n 2, 1) := by decide +kernel
theorem dX5_usedSet_36 : decode cX5_usedSet 36 = .ok (.iaload, 1) := by decide +kernel
theorem dX5_usedSet_37 : decode cX5_usedSet 37 = .ok (.ishl, 1) := by decide +kernel
theorem dX5_usedSet_38 : decode cX5_usedSet 38 = .ok (.ior, 1) := by decide +kernel
theorem dX5_usedSet_39 : decode cX5_usedSet 39 = .ok (.ior, 1) := by decide +kernel
theorem dX5_usedSet_40 : decode cX5_usedSet 40 = .ok (.istore_n 1, 1) := by decide +kernel
theorem dX5_usedSet_41 : decode cX5_usedSet 41 = .ok (.iinc 2 1, 3) := by decide +kernel
theorem dX5_usedSet_44 : decode cX5_usedSet 44 = .ok (.goto (-40), 3) := by decide +kernel
theorem dX5_usedSet_47 : decode cX5_usedSet 47 = .ok (.iload_n 1, 1) := by decide +kernel
theorem dX5_usedSet_48 : decode cX5_usedSet 48 = .ok (.ireturn, 1) := by decide +kernel
theorem dX5_turnable_0 : decode cX5_turnable 0 = .ok (.iconst 0, 1) := by decide +kernel
theorem dX5_turnable_1 : decode cX5_turnable 1 = .ok (.istore_n 1, 1) := by decide +kernel
theorem dX5_turnable_2 : decode cX5_turnable 2 = .ok (.iconst 0, 1) := by decide +kernel
theorem dX5_turnable_3 : decode cX5_turnable 3 = .ok (.istore_n 2, 1) := by decide +kernel
theorem dX5_turnable_4 : decode cX5_turnable 4 = .ok (.iload_n 2, 1) := by decide +kernel
theorem dX5_turnable_5 : decode cX5_turnable 5 = .ok (.aload_n 0, 1) := by decide +kernel
theorem dX5_turnable_6 : decode cX5_turnable 6 = .ok (.getfield 34, 3) := by decide +kernel
theorem dX5_turnable_9 : decode cX5_turnable 9 = .ok (.if_icmp .ge 49, 3) := by decide +kernel
theorem dX5_turnable_12 : decode cX5_turnable 12 = .ok (.aload_n 0, 1) := by decide +kernel
theorem dX5_turnable_13 : decode cX5_turnable 13 = .ok (.getfield 9, 3) := by decide +kernel
theorem dX5_turnable_16 : decode cX5_turnable 16 = .ok (.iload_n 2, 1) := by decide +kernel
theorem dX5_turnable_17 : decode cX5_turnable 17 = .ok (.iaload, 1) := by decide +kernel
theorem dX5_turnable_18 : decode cX5_turnable 18 = .ok (.ifCond .eq 34, 3) := by decide +kernel
theorem dX5_turnable_21 : decode cX5_turnable 21 = .ok (.aload_n 0, 1) := by decide +kernel
theorem dX5_turnable_22 : decode cX5_turnable 22 = .ok (.getfield 9, 3) := by decide +kernel
theorem dX5_turnable_25 : decode cX5_turnable 25 = .ok (.iload_n 2, 1) := by decide +kernel
theorem dX5_turnable_26 : decode cX5_turnable 26 = .ok (.iaload, 1) := by decide +kernel
theorem dX5_turnable_27 : decode cX5_turnable 27 = .ok (.iconst 2, 1) := by decide +kernel
theorem dX5_turnable_28 : decode cX5_turnable 28 = .ok (.if_icmp .eq 24, 3) := by decide +kernel
theorem dX5_turnable_31 : decode cX5_turnable 31 = .ok (.aload_n 0, 1) := by decide +kernel
theorem dX5_turnable_32 : decode cX5_turnable 32 = .ok (.getfield 18, 3) := by decide +kernel
theorem dX5_turnable_35 : decode cX5_turnable 35 = .ok (.iload_n 2, 1) := by decide +kernel
theorem dX5_turnable_36 : decode cX5_turnable 36 = .ok (.iaload, 1) := by decide +kernel
theorem dX5_turnable_37 : decode cX5_turnable 37 = .ok (.aload_n 0, 1) := by decide +kernel
theorem dX5_turnable_38 : decode cX5_turnable 38 = .ok (.getfield 21, 3) := by decide +kernel
theorem dX5_turnable_41 : decode cX5_turnable 41 = .ok (.iload_n 2, 1) := by decide +kernel
theorem dX5_turnable_42 : decode cX5_turnable 42 = .ok (.iaload, 1) := by decide +kernel
theorem dX5_turnable_43 : decode cX5_turnable 43 = .ok (.if_icmp .eq 9, 3) := by decide +kernel
theorem dX5_turnable_46 : decode cX5_turnable 46 = .ok (.iload_n 1, 1) := by decide +kernel
theorem dX5_turnable_47 : decode cX5_turnable 47 = .ok (.iconst 1, 1) := by decide +kernel
theorem dX5_turnable_48 : decode cX5_turnable 48 = .ok (.iload_n 2, 1) := by decide +kernel
theorem dX5_turnable_49 : decode cX5_turnable 49 = .ok (.ishl, 1) := by decide +kernel
theorem dX5_turnable_50 : decode cX5_turnable 50 = .ok (.ior, 1) := by decide +kernel
theorem dX5_turnable_51 : decode cX5_turnable 51 = .ok (.istore_n 1, 1) := by decide +kernel
theorem dX5_turnable_52 : decode cX5_turnable 52 = .ok (.iinc 2 1, 3) := by decide +kernel
theorem dX5_turnable_55 : decode cX5_turnable 55 = .ok (.goto (-51), 3) := by decide +kernel
theorem dX5_turnable_58 : decode cX5_turnable 58 = .ok (.iload_n 1, 1) := by decide +kernel
theorem dX5_turnable_59 : decode cX5_turnable 59 = .ok (.ireturn, 1) := by decide +kernel
theorem dX5_isFar_0 : decode cX5_isFar 0 = .ok (.iload_n 1, 1) := by decide +kernel
theorem dX5_isFar_1 : decode cX5_isFar 1 = .ok (.iload_n 2, 1) := by decide +kernel
theorem dX5_isFar_2 : decode cX5_isFar 2 = .ok (.if_icmp .eq 23, 3) := by decide +kernel
theorem dX5_isFar_5 : decode cX5_isFar 5 = .ok (.aload_n 0, 1) := by decide +kernel
theorem dX5_isFar_6 : decode cX5_isFar 6 = .ok (.getfield 24, 3) := by decide +kernel
theorem dX5_isFar_9 : decode cX5_isFar 9 = .ok (.iload_n 1, 1) := by decide +kernel
theorem dX5_isFar_10 : decode cX5_isFar 10 = .ok (.iload_n 2, 1) := by decide +kernel
theorem dX5_isFar_11 : decode cX5_isFar 11 = .ok (.isub, 1) := by decide +kernel
theorem dX5_isFar_12 : decode cX5_isFar 12 = .ok (.invokestatic 43, 3) := by decide +kernel
theorem dX5_isFar_15 : decode cX5_isFar 15 = .ok (.ishr, 1) := by decide +kernel
theorem dX5_isFar_16 : decode cX5_isFar 16 = .ok (.iconst 1, 1) := by decide +kernel
theorem dX5_isFar_17 : decode cX5_isFar 17 = .ok (.iand, 1) := by decide +kernel
theorem dX5_isFar_18 : decode cX5_isFar 18 = .ok (.ifCond .ne 7, 3) := by decide +kernel
theorem dX5_isFar_21 : decode cX5_isFar 21 = .ok (.iconst 1, 1) := by decide +kernel
theorem dX5_isFar_22 : decode cX5_isFar 22 = .ok (.goto 4, 3) := by decide +kernel
theorem dX5_isFar_25 : decode cX5_isFar 25 = .ok (.iconst 0, 1) := by decide +kernel
theorem dX5_isFar_26 : decode cX5_isFar 26 = .ok (.ireturn, 1) := by decide +kernel
theorem dX5_execute_0 : decode cX5_execute 0 = .ok (.iconst 0, 1) := by decide +kernel
theorem dX5_execute_1 : decode cX5_execute 1 = .ok (.istore_n 1, 1) := by decide +kernel
theorem dX5_execute_2 : decode cX5_execute 2 = .ok (.iload_n 1, 1) := by decide +kernel
theorem dX5_execute_3 : decode cX5_execute 3 = .ok (.aload_n 0, 1) := by decide +kernel
theorem dX5_execute_4 : decode cX5_execute 4 = .ok (.getfield 34, 3) := by decide +kernel
theorem dX5_execute_7 : decode cX5_execute 7 = .ok (.if_icmp .ge 51, 3) := by decide +kernel
theorem dX5_execute_10 : decode cX5_execute 10 = .ok (.aload_n 0, 1) := by decide +kernel
theorem dX5_execute_11 : decode cX5_execute 11 = .ok (.getfield 28, 3) := by decide +kernel
