theorem dX8_put_67 : decode cX8_put 67 = .ok (.getfield 87, 3) := by decide +kernel
theorem dX8_put_70 : decode cX8_put 70 = .ok (.iload_n 2, 1) := by decide +kernel
theorem dX8_put_71 : decode cX8_put 71 = .ok (.iastore, 1) := by decide +kernel
theorem dX8_put_72 : decode cX8_put 72 = .ok (.aload_n 0, 1) := by decide +kernel
theorem dX8_put_73 : decode cX8_put 73 = .ok (.getfield 16, 3) := by decide +kernel
theorem dX8_put_76 : decode cX8_put 76 = .ok (.aload_n 0, 1) := by decide +kernel
theorem dX8_put_77 : decode cX8_put 77 = .ok (.getfield 87, 3) := by decide +kernel
theorem dX8_put_80 : decode cX8_put 80 = .ok (.iload_n 3, 1) := by decide +kernel
theorem dX8_put_81 : decode cX8_put 81 = .ok (.iastore, 1) := by decide +kernel
theorem dX8_put_82 : decode cX8_put 82 = .ok (.aload_n 0, 1) := by decide +kernel
theorem dX8_put_83 : decode cX8_put 83 = .ok (.getfield 19, 3) := by decide +kernel
theorem dX8_put_86 : decode cX8_put 86 = .ok (.aload_n 0, 1) := by decide +kernel
theorem dX8_put_87 : decode cX8_put 87 = .ok (.getfield 87, 3) := by decide +kernel
theorem dX8_put_90 : decode cX8_put 90 = .ok (.iload_n 1, 1) := by decide +kernel
theorem dX8_put_91 : decode cX8_put 91 = .ok (.ifCond .le 8, 3) := by decide +kernel
theorem dX8_put_94 : decode cX8_put 94 = .ok (.iload 4, 2) := by decide +kernel
theorem dX8_put_96 : decode cX8_put 96 = .ok (.goto 4, 3) := by decide +kernel
theorem dX8_put_99 : decode cX8_put 99 = .ok (.iload_n 3, 1) := by decide +kernel
theorem dX8_put_100 : decode cX8_put 100 = .ok (.iastore, 1) := by decide +kernel
theorem dX8_put_101 : decode cX8_put 101 = .ok (.aload_n 0, 1) := by decide +kernel
theorem dX8_put_102 : decode cX8_put 102 = .ok (.invokevirtual 95, 3) := by decide +kernel
theorem dX8_put_105 : decode cX8_put 105 = .ok (.aload_n 0, 1) := by decide +kernel
theorem dX8_put_106 : decode cX8_put 106 = .ok (.dup, 1) := by decide +kernel
theorem dX8_put_107 : decode cX8_put 107 = .ok (.getfield 87, 3) := by decide +kernel
theorem dX8_put_110 : decode cX8_put 110 = .ok (.dup_x1, 1) := by decide +kernel
theorem dX8_put_111 : decode cX8_put 111 = .ok (.iconst 1, 1) := by decide +kernel
theorem dX8_put_112 : decode cX8_put 112 = .ok (.iadd, 1) := by decide +kernel
theorem dX8_put_113 : decode cX8_put 113 = .ok (.putfield 87, 3) := by decide +kernel
theorem dX8_put_116 : decode cX8_put 116 = .ok (.ireturn, 1) := by decide +kernel
theorem dX8_drop_0 : decode cX8_drop 0 = .ok (.aload_n 0, 1) := by decide +kernel
theorem dX8_drop_1 : decode cX8_drop 1 = .ok (.iload_n 1, 1) := by decide +kernel
theorem dX8_drop_2 : decode cX8_drop 2 = .ok (.invokevirtual 98, 3) := by decide +kernel
theorem dX8_drop_5 : decode cX8_drop 5 = .ok (.ifCond .ne 5, 3) := by decide +kernel
theorem dX8_drop_8 : decode cX8_drop 8 = .ok (.iconst (-1), 1) := by decide +kernel
theorem dX8_drop_9 : decode cX8_drop 9 = .ok (.ireturn, 1) := by decide +kernel
theorem dX8_drop_10 : decode cX8_drop 10 = .ok (.aload_n 0, 1) := by decide +kernel
theorem dX8_drop_11 : decode cX8_drop 11 = .ok (.dup, 1) := by decide +kernel
theorem dX8_drop_12 : decode cX8_drop 12 = .ok (.getfield 87, 3) := by decide +kernel
theorem dX8_drop_15 : decode cX8_drop 15 = .ok (.iconst 1, 1) := by decide +kernel
theorem dX8_drop_16 : decode cX8_drop 16 = .ok (.isub, 1) := by decide +kernel
theorem dX8_drop_17 : decode cX8_drop 17 = .ok (.putfield 87, 3) := by decide +kernel
theorem dX8_drop_20 : decode cX8_drop 20 = .ok (.iload_n 1, 1) := by decide +kernel
theorem dX8_drop_21 : decode cX8_drop 21 = .ok (.istore_n 2, 1) := by decide +kernel
theorem dX8_drop_22 : decode cX8_drop 22 = .ok (.iload_n 2, 1) := by decide +kernel
theorem dX8_drop_23 : decode cX8_drop 23 = .ok (.aload_n 0, 1) := by decide +kernel
theorem dX8_drop_24 : decode cX8_drop 24 = .ok (.getfield 87, 3) := by decide +kernel
theorem dX8_drop_27 : decode cX8_drop 27 = .ok (.if_icmp .ge 65, 3) := by decide +kernel
theorem dX8_drop_30 : decode cX8_drop 30 = .ok (.aload_n 0, 1) := by decide +kernel
theorem dX8_drop_31 : decode cX8_drop 31 = .ok (.getfield 7, 3) := by decide +kernel
theorem dX8_drop_34 : decode cX8_drop 34 = .ok (.iload_n 2, 1) := by decide +kernel
theorem dX8_drop_35 : decode cX8_drop 35 = .ok (.aload_n 0, 1) := by decide +kernel
theorem dX8_drop_36 : decode cX8_drop 36 = .ok (.getfield 7, 3) := by decide +kernel
theorem dX8_drop_39 : decode cX8_drop 39 = .ok (.iload_n 2, 1) := by decide +kernel
theorem dX8_drop_40 : decode cX8_drop 40 = .ok (.iconst 1, 1) := by decide +kernel
theorem dX8_drop_41 : decode cX8_drop 41 = .ok (.iadd, 1) := by decide +kernel
theorem dX8_drop_42 : decode cX8_drop 42 = .ok (.iaload, 1) := by decide +kernel
theorem dX8_drop_43 : decode cX8_drop 43 = .ok (.iastore, 1) := by decide +kernel
theorem dX8_drop_44 : decode cX8_drop 44 = .ok (.aload_n 0, 1) := by decide +kernel
theorem dX8_drop_45 : decode cX8_drop 45 = .ok (.getfield 13, 3) := by decide +kernel
theorem dX8_drop_48 : decode cX8_drop 48 = .ok (.iload_n 2, 1) := by decide +kernel
theorem dX8_drop_49 : decode cX8_drop 49 = .ok (.aload_n 0, 1) := by decide +kernel
theorem dX8_drop_50 : decode cX8_drop 50 = .ok (.getfield 13, 3) := by decide +kernel
theorem dX8_drop_53 : decode cX8_drop 53 = .ok (.iload_n 2, 1) := by decide +kernel
theorem dX8_drop_54 : decode cX8_drop 54 = .ok (.iconst 1, 1) := by decide +kernel
theorem dX8_drop_55 : decode cX8_drop 55 = .ok (.iadd, 1) := by decide +kernel
theorem dX8_drop_56 : decode cX8_drop 56 = .ok (.iaload, 1) := by decide +kernel
theorem dX8_drop_57 : decode cX8_drop 57 = .ok (.iastore, 1) := by decide +kernel
theorem dX8_drop_58 : decode cX8_drop 58 = .ok (.aload_n 0, 1) := by decide +kernel
theorem dX8_drop_59 : decode cX8_drop 59 = .ok (.getfield 16, 3) := by decide +kernel
theorem dX8_drop_62 : decode cX8_drop 62 = .ok (.iload_n 2, 1) := by decide +kernel
theorem dX8_drop_63 : decode cX8_drop 63 = .ok (.aload_n 0, 1) := by decide +kernel
theorem dX8_drop_64 : decode cX8_drop 64 = .ok (.getfield 16, 3) := by decide +kernel
theorem dX8_drop_67 : decode cX8_drop 67 = .ok (.iload_n 2, 1) := by decide +kernel
theorem dX8_drop_68 : decode cX8_drop 68 = .ok (.iconst 1, 1) := by decide +kernel
theorem dX8_drop_69 : decode cX8_drop 69 = .ok (.iadd, 1) := by decide +kernel
theorem dX8_drop_70 : decode cX8_drop 70 = .ok (.iaload, 1) := by decide +kernel
theorem dX8_drop_71 : decode cX8_drop 71 = .ok (.iastore, 1) := by decide +kernel
theorem dX8_drop_72 : decode cX8_drop 72 = .ok (.aload_n 0, 1) := by decide +kernel
theorem dX8_drop_73 : decode cX8_drop 73 = .ok (.getfield 19, 3) := by decide +kernel
theorem dX8_drop_76 : decode cX8_drop 76 = .ok (.iload_n 2, 1) := by decide +kernel
theorem dX8_drop_77 : decode cX8_drop 77 = .ok (.aload_n 0, 1) := by decide +kernel
theorem dX8_drop_78 : decode cX8_drop 78 = .ok (.getfield 19, 3) := by decide +kernel
theorem dX8_drop_81 : decode cX8_drop 81 = .ok (.iload_n 2, 1) := by decide +kernel
theorem dX8_drop_82 : decode cX8_drop 82 = .ok (.iconst 1, 1) := by decide +kernel
theorem dX8_drop_83 : decode cX8_drop 83 = .ok (.iadd, 1) := by decide +kernel
theorem dX8_drop_84 : decode cX8_drop 84 = .ok (.iaload, 1) := by decide +kernel
theorem dX8_drop_85 : decode cX8_drop 85 = .ok (.iastore, 1) := by decide +kernel
theorem dX8_drop_86 : decode cX8_drop 86 = .ok (.iinc 2 1, 3) := by decide +kernel
theorem dX8_drop_89 : decode cX8_drop 89 = .ok (.goto (-67), 3) := by decide +kernel
theorem dX8_drop_92 : decode cX8_drop 92 = .ok (.aload_n 0, 1) := by decide +kernel
theorem dX8_drop_93 : decode cX8_drop 93 = .ok (.invokevirtual 95, 3) := by decide +kernel
theorem dX8_drop_96 : decode cX8_drop 96 = .ok (.aload_n 0, 1) := by decide +kernel
theorem dX8_drop_97 : decode cX8_drop 97 = .ok (.getfield 87, 3) := by decide +kernel
theorem dX8_drop_100 : decode cX8_drop 100 = .ok (.ireturn, 1) := by decide +kernel
theorem dX8_cross_0 : decode cX8_cross 0 = .ok (.aload_n 0, 1) := by decide +kernel
theorem dX8_cross_1 : decode cX8_cross 1 = .ok (.iload_n 1, 1) := by decide +kernel
theorem dX8_cross_2 : decode cX8_cross 2 = .ok (.invokevirtual 98, 3) := by decide +kernel
theorem dX8_cross_5 : decode cX8_cross 5 = .ok (.ifCond .ne 5, 3) := by decide +kernel
theorem dX8_cross_8 : decode cX8_cross 8 = .ok (.iconst (-1), 1) := by decide +kernel
theorem dX8_cross_9 : decode cX8_cross 9 = .ok (.ireturn, 1) := by decide +kernel
theorem dX8_cross_10 : decode cX8_cross 10 = .ok (.aload_n 0, 1) := by decide +kernel
theorem dX8_cross_11 : decode cX8_cross 11 = .ok (.getfield 7, 3) := by decide +kernel
theorem dX8_cross_14 : decode cX8_cross 14 = .ok (.iload_n 1, 1) := by decide +kernel
theorem dX8_cross_15 : decode cX8_cross 15 = .ok (.iaload, 1) := by decide +kernel
theorem dX8_cross_16 : decode cX8_cross 16 = .ok (.ifCond .ne 6, 3) := by decide +kernel
theorem dX8_cross_19 : decode cX8_cross 19 = .ok (.bipush (-5), 2) := by decide +kernel
theorem dX8_cross_21 : decode cX8_cross 21 = .ok (.ireturn, 1) := by decide +kernel
theorem dX8_cross_22 : decode cX8_cross 22 = .ok (.aload_n 0, 1) := by decide +kernel
theorem dX8_cross_23 : decode cX8_cross 23 = .ok (.getfield 16, 3) := by decide +kernel
theorem dX8_cross_26 : decode cX8_cross 26 = .ok (.iload_n 1, 1) := by decide +kernel
theorem dX8_cross_27 : decode cX8_cross 27 = .ok (.iaload, 1) := by decide +kernel
theorem dX8_cross_28 : decode cX8_cross 28 = .ok (.istore_n 2, 1) := by decide +kernel
theorem dX8_cross_29 : decode cX8_cross 29 = .ok (.aload_n 0, 1) := by decide +kernel
theorem dX8_cross_30 : decode cX8_cross 30 = .ok (.getfield 16, 3) := by decide +kernel
theorem dX8_cross_33 : decode cX8_cross 33 = .ok (.iload_n 1, 1) := by decide +kernel
theorem dX8_cross_34 : decode cX8_cross 34 = .ok (.aload_n 0, 1) := by decide +kernel
theorem dX8_cross_35 : decode cX8_cross 35 = .ok (.getfield 19, 3) := by decide +kernel
theorem dX8_cross_38 : decode cX8_cross 38 = .ok (.iload_n 1, 1) := by decide +kernel
theorem dX8_cross_39 : decode cX8_cross 39 = .ok (.iaload, 1) := by decide +kernel
theorem dX8_cross_40 : decode cX8_cross 40 = .ok (.iastore, 1) := by decide +kernel
theorem dX8_cross_41 : decode cX8_cross 41 = .ok (.aload_n 0, 1) := by decide +kernel
theorem dX8_cross_42 : decode cX8_cross 42 = .ok (.getfield 19, 3) := by decide +kernel
theorem dX8_cross_45 : decode cX8_cross 45 = .ok (.iload_n 1, 1) := by decide +kernel
theorem dX8_cross_46 : decode cX8_cross 46 = .ok (.iload_n 2, 1) := by decide +kernel
theorem dX8_cross_47 : decode cX8_cross 47 = .ok (.iastore, 1) := by decide +kernel
theorem dX8_cross_48 : decode cX8_cross 48 = .ok (.aload_n 0, 1) := by decide +kernel
theorem dX8_cross_49 : decode cX8_cross 49 = .ok (.invokevirtual 95, 3) := by decide +kernel
theorem dX8_cross_52 : decode cX8_cross 52 = .ok (.iload_n 1, 1) := by decide +kernel
theorem dX8_cross_53 : decode cX8_cross 53 = .ok (.ireturn, 1) := by decide +kernel
theorem dX8_told_0 : decode cX8_told 0 = .ok (.aload_n 0, 1) := by decide +kernel
theorem dX8_told_1 : decode cX8_told 1 = .ok (.iload_n 1, 1) := by decide +kernel
theorem dX8_told_2 : decode cX8_told 2 = .ok (.invokevirtual 98, 3) := by decide +kernel
theorem dX8_told_5 : decode cX8_told 5 = .ok (.ifCond .ne 5, 3) := by decide +kernel
theorem dX8_told_8 : decode cX8_told 8 = .ok (.iconst (-1), 1) := by decide +kernel
theorem dX8_told_9 : decode cX8_told 9 = .ok (.ireturn, 1) := by decide +kernel
theorem dX8_told_10 : decode cX8_told 10 = .ok (.iload_n 2, 1) := by decide +kernel
theorem dX8_told_11 : decode cX8_told 11 = .ok (.tableswitch 71 0 3 #[29, 36, 43, 50], 29) := by decide +kernel
theorem dX8_told_40 : decode cX8_told 40 = .ok (.aload_n 0, 1) := by decide +kernel
theorem dX8_told_41 : decode cX8_told 41 = .ok (.getfield 7, 3) := by decide +kernel
theorem dX8_told_44 : decode cX8_told 44 = .ok (.iload_n 1, 1) := by decide +kernel
theorem dX8_told_45 : decode cX8_told 45 = .ok (.iaload, 1) := by decide +kernel
theorem dX8_told_46 : decode cX8_told 46 = .ok (.ireturn, 1) := by decide +kernel
theorem dX8_told_47 : decode cX8_told 47 = .ok (.aload_n 0, 1) := by decide +kernel
theorem dX8_told_48 : decode cX8_told 48 = .ok (.getfield 13, 3) := by decide +kernel
theorem dX8_told_51 : decode cX8_told 51 = .ok (.iload_n 1, 1) := by decide +kernel
theorem dX8_told_52 : decode cX8_told 52 = .ok (.iaload, 1) := by decide +kernel
theorem dX8_told_53 : decode cX8_told 53 = .ok (.ireturn, 1) := by decide +kernel
theorem dX8_told_54 : decode cX8_told 54 = .ok (.aload_n 0, 1) := by decide +kernel
theorem dX8_told_55 : decode cX8_told 55 = .ok (.getfield 16, 3) := by decide +kernel
theorem dX8_told_58 : decode cX8_told 58 = .ok (.iload_n 1, 1) := by decide +kernel
theorem dX8_told_59 : decode cX8_told 59 = .ok (.iaload, 1) := by decide +kernel
theorem dX8_told_60 : decode cX8_told 60 = .ok (.ireturn, 1) := by decide +kernel
theorem dX8_told_61 : decode cX8_told 61 = .ok (.aload_n 0, 1) := by decide +kernel
theorem dX8_told_62 : decode cX8_told 62 = .ok (.getfield 7, 3) := by decide +kernel
theorem dX8_told_65 : decode cX8_told 65 = .ok (.iload_n 1, 1) := by decide +kernel
theorem dX8_told_66 : decode cX8_told 66 = .ok (.iaload, 1) := by decide +kernel
theorem dX8_told_67 : decode cX8_told 67 = .ok (.ifCond .ne 8, 3) := by decide +kernel
theorem dX8_told_70 : decode cX8_told 70 = .ok (.bipush (-6), 2) := by decide +kernel
theorem dX8_told_72 : decode cX8_told 72 = .ok (.goto 9, 3) := by decide +kernel
theorem dX8_told_75 : decode cX8_told 75 = .ok (.aload_n 0, 1) := by decide +kernel
theorem dX8_told_76 : decode cX8_told 76 = .ok (.getfield 19, 3) := by decide +kernel
theorem dX8_told_79 : decode cX8_told 79 = .ok (.iload_n 1, 1) := by decide +kernel
theorem dX8_told_80 : decode cX8_told 80 = .ok (.iaload, 1) := by decide +kernel
theorem dX8_told_81 : decode cX8_told 81 = .ok (.ireturn, 1) := by decide +kernel
theorem dX8_told_82 : decode cX8_told 82 = .ok (.bipush (-2), 2) := by decide +kernel
theorem dX8_told_84 : decode cX8_told 84 = .ok (.ireturn, 1) := by decide +kernel
theorem dX8_free_0 : decode cX8_free 0 = .ok (.iload_n 1, 1) := by decide +kernel
theorem dX8_free_1 : decode cX8_free 1 = .ok (.iconst 1, 1) := by decide +kernel
theorem dX8_free_2 : decode cX8_free 2 = .ok (.bipush 6, 2) := by decide +kernel
theorem dX8_free_4 : decode cX8_free 4 = .ok (.invokestatic 83, 3) := by decide +kernel
theorem dX8_free_7 : decode cX8_free 7 = .ok (.ifCond .eq 12, 3) := by decide +kernel
theorem dX8_free_10 : decode cX8_free 10 = .ok (.iload_n 2, 1) := by decide +kernel
theorem dX8_free_11 : decode cX8_free 11 = .ok (.iconst 0, 1) := by decide +kernel
theorem dX8_free_12 : decode cX8_free 12 = .ok (.iconst 1, 1) := by decide +kernel
theorem dX8_free_13 : decode cX8_free 13 = .ok (.invokestatic 83, 3) := by decide +kernel
theorem dX8_free_16 : decode cX8_free 16 = .ok (.ifCond .ne 6, 3) := by decide +kernel
theorem dX8_free_19 : decode cX8_free 19 = .ok (.bipush (-2), 2) := by decide +kernel
theorem dX8_free_21 : decode cX8_free 21 = .ok (.ireturn, 1) := by decide +kernel
theorem dX8_free_22 : decode cX8_free 22 = .ok (.aload_n 0, 1) := by decide +kernel
theorem dX8_free_23 : decode cX8_free 23 = .ok (.getfield 28, 3) := by decide +kernel
theorem dX8_free_26 : decode cX8_free 26 = .ok (.iload_n 1, 1) := by decide +kernel
theorem dX8_free_27 : decode cX8_free 27 = .ok (.iload_n 2, 1) := by decide +kernel
theorem dX8_free_28 : decode cX8_free 28 = .ok (.iconst 1, 1) := by decide +kernel
theorem dX8_free_29 : decode cX8_free 29 = .ok (.if_icmp .ne 7, 3) := by decide +kernel
theorem dX8_free_32 : decode cX8_free 32 = .ok (.iconst 1, 1) := by decide +kernel
theorem dX8_free_33 : decode cX8_free 33 = .ok (.goto 4, 3) := by decide +kernel
theorem dX8_free_36 : decode cX8_free 36 = .ok (.iconst 0, 1) := by decide +kernel
theorem dX8_free_37 : decode cX8_free 37 = .ok (.bastore, 1) := by decide +kernel
theorem dX8_free_38 : decode cX8_free 38 = .ok (.aload_n 0, 1) := by decide +kernel
theorem dX8_free_39 : decode cX8_free 39 = .ok (.invokevirtual 95, 3) := by decide +kernel
theorem dX8_free_42 : decode cX8_free 42 = .ok (.iconst 0, 1) := by decide +kernel
theorem dX8_free_43 : decode cX8_free 43 = .ok (.istore_n 3, 1) := by decide +kernel
theorem dX8_free_44 : decode cX8_free 44 = .ok (.iconst 1, 1) := by decide +kernel
theorem dX8_free_45 : decode cX8_free 45 = .ok (.istore 4, 2) := by decide +kernel
theorem dX8_free_47 : decode cX8_free 47 = .ok (.iload 4, 2) := by decide +kernel
theorem dX8_free_49 : decode cX8_free 49 = .ok (.bipush 7, 2) := by decide +kernel
theorem dX8_free_51 : decode cX8_free 51 = .ok (.if_icmp .ge 30, 3) := by decide +kernel
theorem dX8_free_54 : decode cX8_free 54 = .ok (.iload_n 3, 1) := by decide +kernel
theorem dX8_free_55 : decode cX8_free 55 = .ok (.aload_n 0, 1) := by decide +kernel
theorem dX8_free_56 : decode cX8_free 56 = .ok (.getfield 28, 3) := by decide +kernel
theorem dX8_free_59 : decode cX8_free 59 = .ok (.iload 4, 2) := by decide +kernel
theorem dX8_free_61 : decode cX8_free 61 = .ok (.baload, 1) := by decide +kernel
theorem dX8_free_62 : decode cX8_free 62 = .ok (.ifCond .eq 10, 3) := by decide +kernel
theorem dX8_free_65 : decode cX8_free 65 = .ok (.iconst 1, 1) := by decide +kernel
theorem dX8_free_66 : decode cX8_free 66 = .ok (.iload 4, 2) := by decide +kernel
theorem dX8_free_68 : decode cX8_free 68 = .ok (.ishl, 1) := by decide +kernel
theorem dX8_free_69 : decode cX8_free 69 = .ok (.goto 4, 3) := by decide +kernel
theorem dX8_free_72 : decode cX8_free 72 = .ok (.iconst 0, 1) := by decide +kernel
theorem dX8_free_73 : decode cX8_free 73 = .ok (.ior, 1) := by decide +kernel
theorem dX8_free_74 : decode cX8_free 74 = .ok (.istore_n 3, 1) := by decide +kernel
theorem dX8_free_75 : decode cX8_free 75 = .ok (.iinc 4 1, 3) := by decide +kernel
theorem dX8_free_78 : decode cX8_free 78 = .ok (.goto (-31), 3) := by decide +kernel
theorem dX8_free_81 : decode cX8_free 81 = .ok (.iload_n 3, 1) := by decide +kernel
theorem dX8_free_82 : decode cX8_free 82 = .ok (.ireturn, 1) := by decide +kernel
theorem dX8_set_0 : decode cX8_set 0 = .ok (.iload_n 1, 1) := by decide +kernel
theorem dX8_set_1 : decode cX8_set 1 = .ok (.invokestatic 91, 3) := by decide +kernel
theorem dX8_set_4 : decode cX8_set 4 = .ok (.ifCond .ne 5, 3) := by decide +kernel
theorem dX8_set_7 : decode cX8_set 7 = .ok (.iconst (-1), 1) := by decide +kernel
theorem dX8_set_8 : decode cX8_set 8 = .ok (.ireturn, 1) := by decide +kernel
theorem dX8_set_9 : decode cX8_set 9 = .ok (.aload_n 0, 1) := by decide +kernel
theorem dX8_set_10 : decode cX8_set 10 = .ok (.getfield 22, 3) := by decide +kernel
theorem dX8_set_13 : decode cX8_set 13 = .ok (.iload_n 1, 1) := by decide +kernel
theorem dX8_set_14 : decode cX8_set 14 = .ok (.iload_n 2, 1) := by decide +kernel
theorem dX8_set_15 : decode cX8_set 15 = .ok (.iastore, 1) := by decide +kernel
theorem dX8_set_16 : decode cX8_set 16 = .ok (.iconst 0, 1) := by decide +kernel
theorem dX8_set_17 : decode cX8_set 17 = .ok (.istore_n 3, 1) := by decide +kernel
theorem dX8_set_18 : decode cX8_set 18 = .ok (.iconst 0, 1) := by decide +kernel
theorem dX8_set_19 : decode cX8_set 19 = .ok (.istore 4, 2) := by decide +kernel
theorem dX8_set_21 : decode cX8_set 21 = .ok (.iload 4, 2) := by decide +kernel
theorem dX8_set_23 : decode cX8_set 23 = .ok (.bipush 7, 2) := by decide +kernel
theorem dX8_set_25 : decode cX8_set 25 = .ok (.if_icmp .ge 27, 3) := by decide +kernel
theorem dX8_set_28 : decode cX8_set 28 = .ok (.iload_n 3, 1) := by decide +kernel
theorem dX8_set_29 : decode cX8_set 29 = .ok (.aload_n 0, 1) := by decide +kernel
theorem dX8_set_30 : decode cX8_set 30 = .ok (.getfield 22, 3) := by decide +kernel
theorem dX8_set_33 : decode cX8_set 33 = .ok (.iload 4, 2) := by decide +kernel
theorem dX8_set_35 : decode cX8_set 35 = .ok (.iaload, 1) := by decide +kernel
theorem dX8_set_36 : decode cX8_set 36 = .ok (.ifCond .eq 7, 3) := by decide +kernel
theorem dX8_set_39 : decode cX8_set 39 = .ok (.iconst 1, 1) := by decide +kernel
theorem dX8_set_40 : decode cX8_set 40 = .ok (.goto 4, 3) := by decide +kernel
theorem dX8_set_43 : decode cX8_set 43 = .ok (.iconst 0, 1) := by decide +kernel
theorem dX8_set_44 : decode cX8_set 44 = .ok (.iadd, 1) := by decide +kernel
theorem dX8_set_45 : decode cX8_set 45 = .ok (.istore_n 3, 1) := by decide +kernel
theorem dX8_set_46 : decode cX8_set 46 = .ok (.iinc 4 1, 3) := by decide +kernel
theorem dX8_set_49 : decode cX8_set 49 = .ok (.goto (-28), 3) := by decide +kernel
theorem dX8_set_52 : decode cX8_set 52 = .ok (.iload_n 3, 1) := by decide +kernel
theorem dX8_set_53 : decode cX8_set 53 = .ok (.ireturn, 1) := by decide +kernel
theorem dX8_value_0 : decode cX8_value 0 = .ok (.iload_n 1, 1) := by decide +kernel
theorem dX8_value_1 : decode cX8_value 1 = .ok (.invokestatic 91, 3) := by decide +kernel
theorem dX8_value_4 : decode cX8_value 4 = .ok (.ifCond .eq 13, 3) := by decide +kernel
theorem dX8_value_7 : decode cX8_value 7 = .ok (.aload_n 0, 1) := by decide +kernel
theorem dX8_value_8 : decode cX8_value 8 = .ok (.getfield 22, 3) := by decide +kernel
theorem dX8_value_11 : decode cX8_value 11 = .ok (.iload_n 1, 1) := by decide +kernel
theorem dX8_value_12 : decode cX8_value 12 = .ok (.iaload, 1) := by decide +kernel
theorem dX8_value_13 : decode cX8_value 13 = .ok (.i2l, 1) := by decide +kernel
theorem dX8_value_14 : decode cX8_value 14 = .ok (.goto 6, 3) := by decide +kernel
theorem dX8_value_17 : decode cX8_value 17 = .ok (.ldc2_w 101, 3) := by decide +kernel
theorem dX8_value_20 : decode cX8_value 20 = .ok (.lreturn, 1) := by decide +kernel
theorem dX8_seen_0 : decode cX8_seen 0 = .ok (.iload_n 2, 1) := by decide +kernel
theorem dX8_seen_1 : decode cX8_seen 1 = .ok (.iconst 2, 1) := by decide +kernel
theorem dX8_seen_2 : decode cX8_seen 2 = .ok (.if_icmp .ne 10, 3) := by decide +kernel
theorem dX8_seen_5 : decode cX8_seen 5 = .ok (.aload_n 0, 1) := by decide +kernel
theorem dX8_seen_6 : decode cX8_seen 6 = .ok (.getfield 13, 3) := by decide +kernel
theorem dX8_seen_9 : decode cX8_seen 9 = .ok (.iload_n 1, 1) := by decide +kernel
theorem dX8_seen_10 : decode cX8_seen 10 = .ok (.iaload, 1) := by decide +kernel
theorem dX8_seen_11 : decode cX8_seen 11 = .ok (.ireturn, 1) := by decide +kernel
theorem dX8_seen_12 : decode cX8_seen 12 = .ok (.aload_n 0, 1) := by decide +kernel
theorem dX8_seen_13 : decode cX8_seen 13 = .ok (.getfield 7, 3) := by decide +kernel
theorem dX8_seen_16 : decode cX8_seen 16 = .ok (.iload_n 1, 1) := by decide +kernel
theorem dX8_seen_17 : decode cX8_seen 17 = .ok (.iaload, 1) := by decide +kernel
theorem dX8_seen_18 : decode cX8_seen 18 = .ok (.ifCond .ne 19, 3) := by decide +kernel
theorem dX8_seen_21 : decode cX8_seen 21 = .ok (.iload_n 2, 1) := by decide +kernel
theorem dX8_seen_22 : decode cX8_seen 22 = .ok (.ifCond .ne 12, 3) := by decide +kernel
theorem dX8_seen_25 : decode cX8_seen 25 = .ok (.aload_n 0, 1) := by decide +kernel
theorem dX8_seen_26 : decode cX8_seen 26 = .ok (.getfield 16, 3) := by decide +kernel
theorem dX8_seen_29 : decode cX8_seen 29 = .ok (.iload_n 1, 1) := by decide +kernel
theorem dX8_seen_30 : decode cX8_seen 30 = .ok (.iaload, 1) := by decide +kernel
theorem dX8_seen_31 : decode cX8_seen 31 = .ok (.goto 5, 3) := by decide +kernel
theorem dX8_seen_34 : decode cX8_seen 34 = .ok (.bipush (-6), 2) := by decide +kernel
theorem dX8_seen_36 : decode cX8_seen 36 = .ok (.ireturn, 1) := by decide +kernel
theorem dX8_seen_37 : decode cX8_seen 37 = .ok (.iload_n 2, 1) := by decide +kernel
theorem dX8_seen_38 : decode cX8_seen 38 = .ok (.ifCond .ne 7, 3) := by decide +kernel
theorem dX8_seen_41 : decode cX8_seen 41 = .ok (.iconst 1, 1) := by decide +kernel
theorem dX8_seen_42 : decode cX8_seen 42 = .ok (.goto 4, 3) := by decide +kernel
theorem dX8_seen_45 : decode cX8_seen 45 = .ok (.iconst 0, 1) := by decide +kernel
theorem dX8_seen_46 : decode cX8_seen 46 = .ok (.iload_n 3, 1) := by decide +kernel
theorem dX8_seen_47 : decode cX8_seen 47 = .ok (.if_icmp .eq 12, 3) := by decide +kernel
theorem dX8_seen_50 : decode cX8_seen 50 = .ok (.aload_n 0, 1) := by decide +kernel
theorem dX8_seen_51 : decode cX8_seen 51 = .ok (.getfield 16, 3) := by decide +kernel
theorem dX8_seen_54 : decode cX8_seen 54 = .ok (.iload_n 1, 1) := by decide +kernel
theorem dX8_seen_55 : decode cX8_seen 55 = .ok (.iaload, 1) := by decide +kernel
theorem dX8_seen_56 : decode cX8_seen 56 = .ok (.goto 9, 3) := by decide +kernel
theorem dX8_seen_59 : decode cX8_seen 59 = .ok (.aload_n 0, 1) := by decide +kernel
theorem dX8_seen_60 : decode cX8_seen 60 = .ok (.getfield 19, 3) := by decide +kernel
theorem dX8_seen_63 : decode cX8_seen 63 = .ok (.iload_n 1, 1) := by decide +kernel
theorem dX8_seen_64 : decode cX8_seen 64 = .ok (.iaload, 1) := by decide +kernel
theorem dX8_seen_65 : decode cX8_seen 65 = .ok (.ireturn, 1) := by decide +kernel
theorem dX8_canTurn_0 : decode cX8_canTurn 0 = .ok (.aload_n 0, 1) := by decide +kernel
theorem dX8_canTurn_1 : decode cX8_canTurn 1 = .ok (.getfield 7, 3) := by decide +kernel
theorem dX8_canTurn_4 : decode cX8_canTurn 4 = .ok (.iload_n 1, 1) := by decide +kernel
theorem dX8_canTurn_5 : decode cX8_canTurn 5 = .ok (.iaload, 1) := by decide +kernel
theorem dX8_canTurn_6 : decode cX8_canTurn 6 = .ok (.iconst 1, 1) := by decide +kernel
theorem dX8_canTurn_7 : decode cX8_canTurn 7 = .ok (.if_icmp .eq 23, 3) := by decide +kernel
theorem dX8_canTurn_10 : decode cX8_canTurn 10 = .ok (.aload_n 0, 1) := by decide +kernel
theorem dX8_canTurn_11 : decode cX8_canTurn 11 = .ok (.getfield 7, 3) := by decide +kernel
theorem dX8_canTurn_14 : decode cX8_canTurn 14 = .ok (.iload_n 1, 1) := by decide +kernel
theorem dX8_canTurn_15 : decode cX8_canTurn 15 = .ok (.iaload, 1) := by decide +kernel
theorem dX8_canTurn_16 : decode cX8_canTurn 16 = .ok (.iconst 3, 1) := by decide +kernel
theorem dX8_canTurn_17 : decode cX8_canTurn 17 = .ok (.if_icmp .eq 13, 3) := by decide +kernel
theorem dX8_canTurn_20 : decode cX8_canTurn 20 = .ok (.aload_n 0, 1) := by decide +kernel
theorem dX8_canTurn_21 : decode cX8_canTurn 21 = .ok (.getfield 7, 3) := by decide +kernel
theorem dX8_canTurn_24 : decode cX8_canTurn 24 = .ok (.iload_n 1, 1) := by decide +kernel
theorem dX8_canTurn_25 : decode cX8_canTurn 25 = .ok (.iaload, 1) := by decide +kernel
theorem dX8_canTurn_26 : decode cX8_canTurn 26 = .ok (.iconst 4, 1) := by decide +kernel
theorem dX8_canTurn_27 : decode cX8_canTurn 27 = .ok (.if_icmp .ne 22, 3) := by decide +kernel
theorem dX8_canTurn_30 : decode cX8_canTurn 30 = .ok (.aload_n 0, 1) := by decide +kernel
theorem dX8_canTurn_31 : decode cX8_canTurn 31 = .ok (.getfield 16, 3) := by decide +kernel
theorem dX8_canTurn_34 : decode cX8_canTurn 34 = .ok (.iload_n 1, 1) := by decide +kernel
theorem dX8_canTurn_35 : decode cX8_canTurn 35 = .ok (.iaload, 1) := by decide +kernel
theorem dX8_canTurn_36 : decode cX8_canTurn 36 = .ok (.aload_n 0, 1) := by decide +kernel
theorem dX8_canTurn_37 : decode cX8_canTurn 37 = .ok (.getfield 19, 3) := by decide +kernel
theorem dX8_canTurn_40 : decode cX8_canTurn 40 = .ok (.iload_n 1, 1) := by decide +kernel
theorem dX8_canTurn_41 : decode cX8_canTurn 41 = .ok (.iaload, 1) := by decide +kernel
theorem dX8_canTurn_42 : decode cX8_canTurn 42 = .ok (.if_icmp .eq 7, 3) := by decide +kernel
theorem dX8_canTurn_45 : decode cX8_canTurn 45 = .ok (.iconst 1, 1) := by decide +kernel
theorem dX8_canTurn_46 : decode cX8_canTurn 46 = .ok (.goto 4, 3) := by decide +kernel
theorem dX8_canTurn_49 : decode cX8_canTurn 49 = .ok (.iconst 0, 1) := by decide +kernel
theorem dX8_canTurn_50 : decode cX8_canTurn 50 = .ok (.ireturn, 1) := by decide +kernel
theorem dX8_layLine_0 : decode cX8_layLine 0 = .ok (.iconst 0, 1) := by decide +kernel
theorem dX8_layLine_1 : decode cX8_layLine 1 = .ok (.istore_n 2, 1) := by decide +kernel
theorem dX8_layLine_2 : decode cX8_layLine 2 = .ok (.iconst 0, 1) := by decide +kernel
theorem dX8_layLine_3 : decode cX8_layLine 3 = .ok (.istore_n 3, 1) := by decide +kernel
theorem dX8_layLine_4 : decode cX8_layLine 4 = .ok (.iload_n 3, 1) := by decide +kernel
theorem dX8_layLine_5 : decode cX8_layLine 5 = .ok (.iconst 3, 1) := by decide +kernel
theorem dX8_layLine_6 : decode cX8_layLine 6 = .ok (.aload_n 0, 1) := by decide +kernel
theorem dX8_layLine_7 : decode cX8_layLine 7 = .ok (.getfield 87, 3) := by decide +kernel
theorem dX8_layLine_10 : decode cX8_layLine 10 = .ok (.imul, 1) := by decide +kernel
theorem dX8_layLine_11 : decode cX8_layLine 11 = .ok (.if_icmp .ge 44, 3) := by decide +kernel
theorem dX8_layLine_14 : decode cX8_layLine 14 = .ok (.aload_n 0, 1) := by decide +kernel
theorem dX8_layLine_15 : decode cX8_layLine 15 = .ok (.iload_n 3, 1) := by decide +kernel
theorem dX8_layLine_16 : decode cX8_layLine 16 = .ok (.iconst 3, 1) := by decide +kernel
theorem dX8_layLine_17 : decode cX8_layLine 17 = .ok (.idiv, 1) := by decide +kernel
theorem dX8_layLine_18 : decode cX8_layLine 18 = .ok (.iload_n 3, 1) := by decide +kernel
theorem dX8_layLine_19 : decode cX8_layLine 19 = .ok (.iconst 3, 1) := by decide +kernel
theorem dX8_layLine_20 : decode cX8_layLine 20 = .ok (.irem, 1) := by decide +kernel
theorem dX8_layLine_21 : decode cX8_layLine 21 = .ok (.iload_n 1, 1) := by decide +kernel
theorem dX8_layLine_22 : decode cX8_layLine 22 = .ok (.iload_n 3, 1) := by decide +kernel
theorem dX8_layLine_23 : decode cX8_layLine 23 = .ok (.iconst 3, 1) := by decide +kernel
theorem dX8_layLine_24 : decode cX8_layLine 24 = .ok (.idiv, 1) := by decide +kernel
theorem dX8_layLine_25 : decode cX8_layLine 25 = .ok (.invokestatic 103, 3) := by decide +kernel
theorem dX8_layLine_28 : decode cX8_layLine 28 = .ok (.invokevirtual 107, 3) := by decide +kernel
theorem dX8_layLine_31 : decode cX8_layLine 31 = .ok (.istore 4, 2) := by decide +kernel
theorem dX8_layLine_33 : decode cX8_layLine 33 = .ok (.iload 4, 2) := by decide +kernel
theorem dX8_layLine_35 : decode cX8_layLine 35 = .ok (.ifCond .lt 14, 3) := by decide +kernel
theorem dX8_layLine_38 : decode cX8_layLine 38 = .ok (.aload_n 0, 1) := by decide +kernel
theorem dX8_layLine_39 : decode cX8_layLine 39 = .ok (.getfield 35, 3) := by decide +kernel
theorem dX8_layLine_42 : decode cX8_layLine 42 = .ok (.iload_n 2, 1) := by decide +kernel
theorem dX8_layLine_43 : decode cX8_layLine 43 = .ok (.iload 4, 2) := by decide +kernel
theorem dX8_layLine_45 : decode cX8_layLine 45 = .ok (.iastore, 1) := by decide +kernel
theorem dX8_layLine_46 : decode cX8_layLine 46 = .ok (.iinc 2 1, 3) := by decide +kernel
theorem dX8_layLine_49 : decode cX8_layLine 49 = .ok (.iinc 3 1, 3) := by decide +kernel
theorem dX8_layLine_52 : decode cX8_layLine 52 = .ok (.goto (-48), 3) := by decide +kernel
theorem dX8_layLine_55 : decode cX8_layLine 55 = .ok (.iload_n 2, 1) := by decide +kernel
theorem dX8_layLine_56 : decode cX8_layLine 56 = .ok (.ireturn, 1) := by decide +kernel
theorem dX8_sight_0 : decode cX8_sight 0 = .ok (.iload_n 1, 1) := by decide +kernel
theorem dX8_sight_1 : decode cX8_sight 1 = .ok (.iconst 0, 1) := by decide +kernel
theorem dX8_sight_2 : decode cX8_sight 2 = .ok (.aload_n 0, 1) := by decide +kernel
theorem dX8_sight_3 : decode cX8_sight 3 = .ok (.iconst 0, 1) := by decide +kernel
theorem dX8_sight_4 : decode cX8_sight 4 = .ok (.invokevirtual 111, 3) := by decide +kernel
theorem dX8_sight_7 : decode cX8_sight 7 = .ok (.iconst 1, 1) := by decide +kernel
theorem dX8_sight_8 : decode cX8_sight 8 = .ok (.isub, 1) := by decide +kernel
theorem dX8_sight_9 : decode cX8_sight 9 = .ok (.invokestatic 83, 3) := by decide +kernel
theorem dX8_sight_12 : decode cX8_sight 12 = .ok (.ifCond .eq 12, 3) := by decide +kernel
theorem dX8_sight_15 : decode cX8_sight 15 = .ok (.aload_n 0, 1) := by decide +kernel
theorem dX8_sight_16 : decode cX8_sight 16 = .ok (.getfield 35, 3) := by decide +kernel
theorem dX8_sight_19 : decode cX8_sight 19 = .ok (.iload_n 1, 1) := by decide +kernel
theorem dX8_sight_20 : decode cX8_sight 20 = .ok (.iaload, 1) := by decide +kernel
theorem dX8_sight_21 : decode cX8_sight 21 = .ok (.goto 5, 3) := by decide +kernel
theorem dX8_sight_24 : decode cX8_sight 24 = .ok (.bipush (-6), 2) := by decide +kernel
theorem dX8_sight_26 : decode cX8_sight 26 = .ok (.ireturn, 1) := by decide +kernel
theorem dX8_usedOnes_0 : decode cX8_usedOnes 0 = .ok (.iconst 0, 1) := by decide +kernel
theorem dX8_usedOnes_1 : decode cX8_usedOnes 1 = .ok (.istore_n 1, 1) := by decide +kernel
theorem dX8_usedOnes_2 : decode cX8_usedOnes 2 = .ok (.aload_n 0, 1) := by decide +kernel
theorem dX8_usedOnes_3 : decode cX8_usedOnes 3 = .ok (.iconst 0, 1) := by decide +kernel
theorem dX8_usedOnes_4 : decode cX8_usedOnes 4 = .ok (.invokevirtual 111, 3) := by decide +kernel
theorem dX8_usedOnes_7 : decode cX8_usedOnes 7 = .ok (.istore_n 2, 1) := by decide +kernel
theorem dX8_usedOnes_8 : decode cX8_usedOnes 8 = .ok (.iconst 0, 1) := by decide +kernel
theorem dX8_usedOnes_9 : decode cX8_usedOnes 9 = .ok (.istore_n 3, 1) := by decide +kernel
theorem dX8_usedOnes_10 : decode cX8_usedOnes 10 = .ok (.iload_n 3, 1) := by decide +kernel
theorem dX8_usedOnes_11 : decode cX8_usedOnes 11 = .ok (.iload_n 2, 1) := by decide +kernel
theorem dX8_usedOnes_12 : decode cX8_usedOnes 12 = .ok (.if_icmp .ge 20, 3) := by decide +kernel
theorem dX8_usedOnes_15 : decode cX8_usedOnes 15 = .ok (.iload_n 1, 1) := by decide +kernel
theorem dX8_usedOnes_16 : decode cX8_usedOnes 16 = .ok (.iconst 1, 1) := by decide +kernel
theorem dX8_usedOnes_17 : decode cX8_usedOnes 17 = .ok (.aload_n 0, 1) := by decide +kernel
theorem dX8_usedOnes_18 : decode cX8_usedOnes 18 = .ok (.getfield 35, 3) := by decide +kernel
theorem dX8_usedOnes_21 : decode cX8_usedOnes 21 = .ok (.iload_n 3, 1) := by decide +kernel
theorem dX8_usedOnes_22 : decode cX8_usedOnes 22 = .ok (.iaload, 1) := by decide +kernel
theorem dX8_usedOnes_23 : decode cX8_usedOnes 23 = .ok (.ishl, 1) := by decide +kernel
theorem dX8_usedOnes_24 : decode cX8_usedOnes 24 = .ok (.ior, 1) := by decide +kernel
theorem dX8_usedOnes_25 : decode cX8_usedOnes 25 = .ok (.istore_n 1, 1) := by decide +kernel
theorem dX8_usedOnes_26 : decode cX8_usedOnes 26 = .ok (.iinc 3 1, 3) := by decide +kernel
theorem dX8_usedOnes_29 : decode cX8_usedOnes 29 = .ok (.goto (-19), 3) := by decide +kernel
theorem dX8_usedOnes_32 : decode cX8_usedOnes 32 = .ok (.iload_n 1, 1) := by decide +kernel
theorem dX8_usedOnes_33 : decode cX8_usedOnes 33 = .ok (.ireturn, 1) := by decide +kernel
theorem dX8_isFar_0 : decode cX8_isFar 0 = .ok (.iload_n 1, 1) := by decide +kernel
theorem dX8_isFar_1 : decode cX8_isFar 1 = .ok (.iload_n 2, 1) := by decide +kernel
theorem dX8_isFar_2 : decode cX8_isFar 2 = .ok (.if_icmp .ge 9, 3) := by decide +kernel
theorem dX8_isFar_5 : decode cX8_isFar 5 = .ok (.iload_n 2, 1) := by decide +kernel
theorem dX8_isFar_6 : decode cX8_isFar 6 = .ok (.iload_n 1, 1) := by decide +kernel
theorem dX8_isFar_7 : decode cX8_isFar 7 = .ok (.isub, 1) := by decide +kernel
theorem dX8_isFar_8 : decode cX8_isFar 8 = .ok (.goto 6, 3) := by decide +kernel
theorem dX8_isFar_11 : decode cX8_isFar 11 = .ok (.iload_n 1, 1) := by decide +kernel
theorem dX8_isFar_12 : decode cX8_isFar 12 = .ok (.iload_n 2, 1) := by decide +kernel
theorem dX8_isFar_13 : decode cX8_isFar 13 = .ok (.isub, 1) := by decide +kernel
theorem dX8_isFar_14 : decode cX8_isFar 14 = .ok (.istore_n 3, 1) := by decide +kernel
theorem dX8_isFar_15 : decode cX8_isFar 15 = .ok (.iload_n 3, 1) := by decide +kernel
theorem dX8_isFar_16 : decode cX8_isFar 16 = .ok (.ifCond .le 16, 3) := by decide +kernel
theorem dX8_isFar_19 : decode cX8_isFar 19 = .ok (.aload_n 0, 1) := by decide +kernel
theorem dX8_isFar_20 : decode cX8_isFar 20 = .ok (.getfield 28, 3) := by decide +kernel
theorem dX8_isFar_23 : decode cX8_isFar 23 = .ok (.iload_n 3, 1) := by decide +kernel
theorem dX8_isFar_24 : decode cX8_isFar 24 = .ok (.baload, 1) := by decide +kernel
theorem dX8_isFar_25 : decode cX8_isFar 25 = .ok (.ifCond .ne 7, 3) := by decide +kernel
theorem dX8_isFar_28 : decode cX8_isFar 28 = .ok (.iconst 1, 1) := by decide +kernel
theorem dX8_isFar_29 : decode cX8_isFar 29 = .ok (.goto 4, 3) := by decide +kernel
theorem dX8_isFar_32 : decode cX8_isFar 32 = .ok (.iconst 0, 1) := by decide +kernel
theorem dX8_isFar_33 : decode cX8_isFar 33 = .ok (.ireturn, 1) := by decide +kernel
theorem dX8_costOf_0 : decode cX8_costOf 0 = .ok (.iconst 0, 1) := by decide +kernel
theorem dX8_costOf_1 : decode cX8_costOf 1 = .ok (.istore 5, 2) := by decide +kernel
theorem dX8_costOf_3 : decode cX8_costOf 3 = .ok (.aload_n 0, 1) := by decide +kernel
theorem dX8_costOf_4 : decode cX8_costOf 4 = .ok (.iload 4, 2) := by decide +kernel
theorem dX8_costOf_6 : decode cX8_costOf 6 = .ok (.putfield 115, 3) := by decide +kernel
theorem dX8_costOf_9 : decode cX8_costOf 9 = .ok (.iconst 0, 1) := by decide +kernel
theorem dX8_costOf_10 : decode cX8_costOf 10 = .ok (.istore 6, 2) := by decide +kernel
theorem dX8_costOf_12 : decode cX8_costOf 12 = .ok (.iload 6, 2) := by decide +kernel
theorem dX8_costOf_14 : decode cX8_costOf 14 = .ok (.iconst 3, 1) := by decide +kernel
theorem dX8_costOf_15 : decode cX8_costOf 15 = .ok (.if_icmp .ge 81, 3) := by decide +kernel
theorem dX8_costOf_18 : decode cX8_costOf 18 = .ok (.aload_n 0, 1) := by decide +kernel
theorem dX8_costOf_19 : decode cX8_costOf 19 = .ok (.iload_n 1, 1) := by decide +kernel
theorem dX8_costOf_20 : decode cX8_costOf 20 = .ok (.iload 6, 2) := by decide +kernel
theorem dX8_costOf_22 : decode cX8_costOf 22 = .ok (.iload_n 2, 1) := by decide +kernel
theorem dX8_costOf_23 : decode cX8_costOf 23 = .ok (.invokevirtual 107, 3) := by decide +kernel
theorem dX8_costOf_26 : decode cX8_costOf 26 = .ok (.istore 7, 2) := by decide +kernel
theorem dX8_costOf_28 : decode cX8_costOf 28 = .ok (.iload 7, 2) := by decide +kernel
theorem dX8_costOf_30 : decode cX8_costOf 30 = .ok (.ifCond .lt 60, 3) := by decide +kernel
theorem dX8_costOf_33 : decode cX8_costOf 33 = .ok (.iload_n 3, 1) := by decide +kernel
theorem dX8_costOf_34 : decode cX8_costOf 34 = .ok (.iload 7, 2) := by decide +kernel
theorem dX8_costOf_36 : decode cX8_costOf 36 = .ok (.invokestatic 103, 3) := by decide +kernel
theorem dX8_costOf_39 : decode cX8_costOf 39 = .ok (.ifCond .eq 51, 3) := by decide +kernel
theorem dX8_costOf_42 : decode cX8_costOf 42 = .ok (.iload 5, 2) := by decide +kernel
theorem dX8_costOf_44 : decode cX8_costOf 44 = .ok (.aload_n 0, 1) := by decide +kernel
theorem dX8_costOf_45 : decode cX8_costOf 45 = .ok (.getfield 115, 3) := by decide +kernel
theorem dX8_costOf_48 : decode cX8_costOf 48 = .ok (.bipush 7, 2) := by decide +kernel
theorem dX8_costOf_50 : decode cX8_costOf 50 = .ok (.if_icmp .eq 26, 3) := by decide +kernel
theorem dX8_costOf_53 : decode cX8_costOf 53 = .ok (.aload_n 0, 1) := by decide +kernel
theorem dX8_costOf_54 : decode cX8_costOf 54 = .ok (.aload_n 0, 1) := by decide +kernel
theorem dX8_costOf_55 : decode cX8_costOf 55 = .ok (.getfield 38, 3) := by decide +kernel
theorem dX8_costOf_58 : decode cX8_costOf 58 = .ok (.aload_n 0, 1) := by decide +kernel
theorem dX8_costOf_59 : decode cX8_costOf 59 = .ok (.getfield 115, 3) := by decide +kernel
theorem dX8_costOf_62 : decode cX8_costOf 62 = .ok (.iaload, 1) := by decide +kernel
theorem dX8_costOf_63 : decode cX8_costOf 63 = .ok (.aload_n 0, 1) := by decide +kernel
theorem dX8_costOf_64 : decode cX8_costOf 64 = .ok (.getfield 38, 3) := by decide +kernel
theorem dX8_costOf_67 : decode cX8_costOf 67 = .ok (.iload 7, 2) := by decide +kernel
theorem dX8_costOf_69 : decode cX8_costOf 69 = .ok (.iaload, 1) := by decide +kernel
theorem dX8_costOf_70 : decode cX8_costOf 70 = .ok (.invokevirtual 118, 3) := by decide +kernel
theorem dX8_costOf_73 : decode cX8_costOf 73 = .ok (.ifCond .eq 7, 3) := by decide +kernel
theorem dX8_costOf_76 : decode cX8_costOf 76 = .ok (.iconst 1, 1) := by decide +kernel
theorem dX8_costOf_77 : decode cX8_costOf 77 = .ok (.goto 4, 3) := by decide +kernel
theorem dX8_costOf_80 : decode cX8_costOf 80 = .ok (.iconst 0, 1) := by decide +kernel
theorem dX8_costOf_81 : decode cX8_costOf 81 = .ok (.iadd, 1) := by decide +kernel
theorem dX8_costOf_82 : decode cX8_costOf 82 = .ok (.istore 5, 2) := by decide +kernel
theorem dX8_costOf_84 : decode cX8_costOf 84 = .ok (.aload_n 0, 1) := by decide +kernel
theorem dX8_costOf_85 : decode cX8_costOf 85 = .ok (.iload 7, 2) := by decide +kernel
theorem dX8_costOf_87 : decode cX8_costOf 87 = .ok (.putfield 115, 3) := by decide +kernel
theorem dX8_costOf_90 : decode cX8_costOf 90 = .ok (.iinc 6 1, 3) := by decide +kernel
theorem dX8_costOf_93 : decode cX8_costOf 93 = .ok (.goto (-81), 3) := by decide +kernel
theorem dX8_costOf_96 : decode cX8_costOf 96 = .ok (.iload 5, 2) := by decide +kernel
theorem dX8_costOf_98 : decode cX8_costOf 98 = .ok (.ireturn, 1) := by decide +kernel
theorem dX8_payBehind_0 : decode cX8_payBehind 0 = .ok (.aload_n 0, 1) := by decide +kernel
theorem dX8_payBehind_1 : decode cX8_payBehind 1 = .ok (.iload_n 1, 1) := by decide +kernel
theorem dX8_payBehind_2 : decode cX8_payBehind 2 = .ok (.iload_n 2, 1) := by decide +kernel
theorem dX8_payBehind_3 : decode cX8_payBehind 3 = .ok (.iload_n 3, 1) := by decide +kernel
theorem dX8_payBehind_4 : decode cX8_payBehind 4 = .ok (.iload 4, 2) := by decide +kernel
theorem dX8_payBehind_6 : decode cX8_payBehind 6 = .ok (.invokevirtual 121, 3) := by decide +kernel
theorem dX8_payBehind_9 : decode cX8_payBehind 9 = .ok (.istore 5, 2) := by decide +kernel
theorem dX8_payBehind_11 : decode cX8_payBehind 11 = .ok (.iload 5, 2) := by decide +kernel
theorem dX8_payBehind_13 : decode cX8_payBehind 13 = .ok (.aload_n 0, 1) := by decide +kernel
theorem dX8_payBehind_14 : decode cX8_payBehind 14 = .ok (.getfield 41, 3) := by decide +kernel
theorem dX8_payBehind_17 : decode cX8_payBehind 17 = .ok (.bipush 8, 2) := by decide +kernel
theorem dX8_payBehind_19 : decode cX8_payBehind 19 = .ok (.iload_n 1, 1) := by decide +kernel
theorem dX8_payBehind_20 : decode cX8_payBehind 20 = .ok (.iconst 1, 1) := by decide +kernel
theorem dX8_payBehind_21 : decode cX8_payBehind 21 = .ok (.iadd, 1) := by decide +kernel
theorem dX8_payBehind_22 : decode cX8_payBehind 22 = .ok (.imul, 1) := by decide +kernel
theorem dX8_payBehind_23 : decode cX8_payBehind 23 = .ok (.aload_n 0, 1) := by decide +kernel
theorem dX8_payBehind_24 : decode cX8_payBehind 24 = .ok (.getfield 115, 3) := by decide +kernel
theorem dX8_payBehind_27 : decode cX8_payBehind 27 = .ok (.iadd, 1) := by decide +kernel
theorem dX8_payBehind_28 : decode cX8_payBehind 28 = .ok (.iaload, 1) := by decide +kernel
theorem dX8_payBehind_29 : decode cX8_payBehind 29 = .ok (.iadd, 1) := by decide +kernel
theorem dX8_payBehind_30 : decode cX8_payBehind 30 = .ok (.ireturn, 1) := by decide +kernel
theorem dX8_layPay_0 : decode cX8_layPay 0 = .ok (.iconst 0, 1) := by decide +kernel
theorem dX8_layPay_1 : decode cX8_layPay 1 = .ok (.istore_n 3, 1) := by decide +kernel
theorem dX8_layPay_2 : decode cX8_layPay 2 = .ok (.iload_n 3, 1) := by decide +kernel
theorem dX8_layPay_3 : decode cX8_layPay 3 = .ok (.bipush 8, 2) := by decide +kernel
theorem dX8_layPay_5 : decode cX8_layPay 5 = .ok (.if_icmp .ge 24, 3) := by decide +kernel
theorem dX8_layPay_8 : decode cX8_layPay 8 = .ok (.aload_n 0, 1) := by decide +kernel
theorem dX8_layPay_9 : decode cX8_layPay 9 = .ok (.getfield 41, 3) := by decide +kernel
theorem dX8_layPay_12 : decode cX8_layPay 12 = .ok (.bipush 8, 2) := by decide +kernel
theorem dX8_layPay_14 : decode cX8_layPay 14 = .ok (.aload_n 0, 1) := by decide +kernel
theorem dX8_layPay_15 : decode cX8_layPay 15 = .ok (.getfield 87, 3) := by decide +kernel
theorem dX8_layPay_18 : decode cX8_layPay 18 = .ok (.imul, 1) := by decide +kernel
theorem dX8_layPay_19 : decode cX8_layPay 19 = .ok (.iload_n 3, 1) := by decide +kernel
theorem dX8_layPay_20 : decode cX8_layPay 20 = .ok (.iadd, 1) := by decide +kernel
theorem dX8_layPay_21 : decode cX8_layPay 21 = .ok (.iconst 0, 1) := by decide +kernel
theorem dX8_layPay_22 : decode cX8_layPay 22 = .ok (.iastore, 1) := by decide +kernel
theorem dX8_layPay_23 : decode cX8_layPay 23 = .ok (.iinc 3 1, 3) := by decide +kernel
theorem dX8_layPay_26 : decode cX8_layPay 26 = .ok (.goto (-24), 3) := by decide +kernel
theorem dX8_layPay_29 : decode cX8_layPay 29 = .ok (.aload_n 0, 1) := by decide +kernel
theorem dX8_layPay_30 : decode cX8_layPay 30 = .ok (.getfield 87, 3) := by decide +kernel
theorem dX8_layPay_33 : decode cX8_layPay 33 = .ok (.iconst 1, 1) := by decide +kernel
theorem dX8_layPay_34 : decode cX8_layPay 34 = .ok (.isub, 1) := by decide +kernel
theorem dX8_layPay_35 : decode cX8_layPay 35 = .ok (.istore_n 3, 1) := by decide +kernel
theorem dX8_layPay_36 : decode cX8_layPay 36 = .ok (.iload_n 3, 1) := by decide +kernel
theorem dX8_layPay_37 : decode cX8_layPay 37 = .ok (.ifCond .lt 107, 3) := by decide +kernel
theorem dX8_layPay_40 : decode cX8_layPay 40 = .ok (.iconst 0, 1) := by decide +kernel
theorem dX8_layPay_41 : decode cX8_layPay 41 = .ok (.istore 4, 2) := by decide +kernel
theorem dX8_layPay_43 : decode cX8_layPay 43 = .ok (.iload 4, 2) := by decide +kernel
theorem dX8_layPay_45 : decode cX8_layPay 45 = .ok (.bipush 8, 2) := by decide +kernel
theorem dX8_layPay_47 : decode cX8_layPay 47 = .ok (.if_icmp .ge 91, 3) := by decide +kernel
theorem dX8_layPay_50 : decode cX8_layPay 50 = .ok (.iload 4, 2) := by decide +kernel
theorem dX8_layPay_52 : decode cX8_layPay 52 = .ok (.bipush 7, 2) := by decide +kernel
theorem dX8_layPay_54 : decode cX8_layPay 54 = .ok (.if_icmp .eq 12, 3) := by decide +kernel
theorem dX8_layPay_57 : decode cX8_layPay 57 = .ok (.iload_n 1, 1) := by decide +kernel
theorem dX8_layPay_58 : decode cX8_layPay 58 = .ok (.iload 4, 2) := by decide +kernel
theorem dX8_layPay_60 : decode cX8_layPay 60 = .ok (.invokestatic 103, 3) := by decide +kernel
theorem dX8_layPay_63 : decode cX8_layPay 63 = .ok (.ifCond .eq 69, 3) := by decide +kernel
theorem dX8_layPay_66 : decode cX8_layPay 66 = .ok (.aload_n 0, 1) := by decide +kernel
theorem dX8_layPay_67 : decode cX8_layPay 67 = .ok (.iload_n 3, 1) := by decide +kernel
theorem dX8_layPay_68 : decode cX8_layPay 68 = .ok (.iconst 0, 1) := by decide +kernel
theorem dX8_layPay_69 : decode cX8_layPay 69 = .ok (.iload_n 1, 1) := by decide +kernel
theorem dX8_layPay_70 : decode cX8_layPay 70 = .ok (.iload 4, 2) := by decide +kernel
theorem dX8_layPay_72 : decode cX8_layPay 72 = .ok (.invokevirtual 125, 3) := by decide +kernel
theorem dX8_layPay_75 : decode cX8_layPay 75 = .ok (.istore 5, 2) := by decide +kernel
theorem dX8_layPay_77 : decode cX8_layPay 77 = .ok (.iload_n 2, 1) := by decide +kernel
theorem dX8_layPay_78 : decode cX8_layPay 78 = .ok (.iconst 1, 1) := by decide +kernel
theorem dX8_layPay_79 : decode cX8_layPay 79 = .ok (.if_icmp .ne 23, 3) := by decide +kernel
theorem dX8_layPay_82 : decode cX8_layPay 82 = .ok (.aload_n 0, 1) := by decide +kernel
theorem dX8_layPay_83 : decode cX8_layPay 83 = .ok (.iload_n 3, 1) := by decide +kernel
theorem dX8_layPay_84 : decode cX8_layPay 84 = .ok (.invokevirtual 128, 3) := by decide +kernel
theorem dX8_layPay_87 : decode cX8_layPay 87 = .ok (.ifCond .eq 15, 3) := by decide +kernel
theorem dX8_layPay_90 : decode cX8_layPay 90 = .ok (.aload_n 0, 1) := by decide +kernel
theorem dX8_layPay_91 : decode cX8_layPay 91 = .ok (.iload_n 3, 1) := by decide +kernel
theorem dX8_layPay_92 : decode cX8_layPay 92 = .ok (.iconst 1, 1) := by decide +kernel
theorem dX8_layPay_93 : decode cX8_layPay 93 = .ok (.iload_n 1, 1) := by decide +kernel
theorem dX8_layPay_94 : decode cX8_layPay 94 = .ok (.iload 4, 2) := by decide +kernel
theorem dX8_layPay_96 : decode cX8_layPay 96 = .ok (.invokevirtual 125, 3) := by decide +kernel
theorem dX8_layPay_99 : decode cX8_layPay 99 = .ok (.goto 5, 3) := by decide +kernel
theorem dX8_layPay_102 : decode cX8_layPay 102 = .ok (.iload 5, 2) := by decide +kernel
theorem dX8_layPay_104 : decode cX8_layPay 104 = .ok (.istore 6, 2) := by decide +kernel
theorem dX8_layPay_106 : decode cX8_layPay 106 = .ok (.aload_n 0, 1) := by decide +kernel
theorem dX8_layPay_107 : decode cX8_layPay 107 = .ok (.getfield 41, 3) := by decide +kernel
theorem dX8_layPay_110 : decode cX8_layPay 110 = .ok (.bipush 8, 2) := by decide +kernel
theorem dX8_layPay_112 : decode cX8_layPay 112 = .ok (.iload_n 3, 1) := by decide +kernel
theorem dX8_layPay_113 : decode cX8_layPay 113 = .ok (.imul, 1) := by decide +kernel
theorem dX8_layPay_114 : decode cX8_layPay 114 = .ok (.iload 4, 2) := by decide +kernel
theorem dX8_layPay_116 : decode cX8_layPay 116 = .ok (.iadd, 1) := by decide +kernel
theorem dX8_layPay_117 : decode cX8_layPay 117 = .ok (.iload 5, 2) := by decide +kernel
theorem dX8_layPay_119 : decode cX8_layPay 119 = .ok (.iload 6, 2) := by decide +kernel
theorem dX8_layPay_121 : decode cX8_layPay 121 = .ok (.if_icmp .ge 8, 3) := by decide +kernel
theorem dX8_layPay_124 : decode cX8_layPay 124 = .ok (.iload 5, 2) := by decide +kernel
theorem dX8_layPay_126 : decode cX8_layPay 126 = .ok (.goto 5, 3) := by decide +kernel
theorem dX8_layPay_129 : decode cX8_layPay 129 = .ok (.iload 6, 2) := by decide +kernel
theorem dX8_layPay_131 : decode cX8_layPay 131 = .ok (.iastore, 1) := by decide +kernel
theorem dX8_layPay_132 : decode cX8_layPay 132 = .ok (.iinc 4 1, 3) := by decide +kernel
theorem dX8_layPay_135 : decode cX8_layPay 135 = .ok (.goto (-92), 3) := by decide +kernel
theorem dX8_layPay_138 : decode cX8_layPay 138 = .ok (.iinc 3 (-1), 3) := by decide +kernel
theorem dX8_layPay_141 : decode cX8_layPay 141 = .ok (.goto (-105), 3) := by decide +kernel
theorem dX8_layPay_144 : decode cX8_layPay 144 = .ok (.aload_n 0, 1) := by decide +kernel
theorem dX8_layPay_145 : decode cX8_layPay 145 = .ok (.getfield 41, 3) := by decide +kernel
theorem dX8_layPay_148 : decode cX8_layPay 148 = .ok (.bipush 7, 2) := by decide +kernel
theorem dX8_layPay_150 : decode cX8_layPay 150 = .ok (.iaload, 1) := by decide +kernel
theorem dX8_layPay_151 : decode cX8_layPay 151 = .ok (.ireturn, 1) := by decide +kernel
theorem dX8_turnedFor_0 : decode cX8_turnedFor 0 = .ok (.aload_n 0, 1) := by decide +kernel
theorem dX8_turnedFor_1 : decode cX8_turnedFor 1 = .ok (.iload_n 1, 1) := by decide +kernel
theorem dX8_turnedFor_2 : decode cX8_turnedFor 2 = .ok (.iload_n 2, 1) := by decide +kernel
theorem dX8_turnedFor_3 : decode cX8_turnedFor 3 = .ok (.invokevirtual 131, 3) := by decide +kernel
theorem dX8_turnedFor_6 : decode cX8_turnedFor 6 = .ok (.pop, 1) := by decide +kernel
theorem dX8_turnedFor_7 : decode cX8_turnedFor 7 = .ok (.iconst 0, 1) := by decide +kernel
theorem dX8_turnedFor_8 : decode cX8_turnedFor 8 = .ok (.istore_n 3, 1) := by decide +kernel
theorem dX8_turnedFor_9 : decode cX8_turnedFor 9 = .ok (.bipush 7, 2) := by decide +kernel
theorem dX8_turnedFor_11 : decode cX8_turnedFor 11 = .ok (.istore 4, 2) := by decide +kernel
theorem dX8_turnedFor_13 : decode cX8_turnedFor 13 = .ok (.iconst 0, 1) := by decide +kernel
theorem dX8_turnedFor_14 : decode cX8_turnedFor 14 = .ok (.istore 5, 2) := by decide +kernel
theorem dX8_turnedFor_16 : decode cX8_turnedFor 16 = .ok (.iload 5, 2) := by decide +kernel
theorem dX8_turnedFor_18 : decode cX8_turnedFor 18 = .ok (.aload_n 0, 1) := by decide +kernel
theorem dX8_turnedFor_19 : decode cX8_turnedFor 19 = .ok (.getfield 87, 3) := by decide +kernel
theorem dX8_turnedFor_22 : decode cX8_turnedFor 22 = .ok (.if_icmp .ge 84, 3) := by decide +kernel
theorem dX8_turnedFor_25 : decode cX8_turnedFor 25 = .ok (.aload_n 0, 1) := by decide +kernel
theorem dX8_turnedFor_26 : decode cX8_turnedFor 26 = .ok (.iload 5, 2) := by decide +kernel
theorem dX8_turnedFor_28 : decode cX8_turnedFor 28 = .ok (.iconst 0, 1) := by decide +kernel
theorem dX8_turnedFor_29 : decode cX8_turnedFor 29 = .ok (.iload_n 1, 1) := by decide +kernel
theorem dX8_turnedFor_30 : decode cX8_turnedFor 30 = .ok (.iload 4, 2) := by decide +kernel
theorem dX8_turnedFor_32 : decode cX8_turnedFor 32 = .ok (.invokevirtual 125, 3) := by decide +kernel
theorem dX8_turnedFor_35 : decode cX8_turnedFor 35 = .ok (.aload_n 0, 1) := by decide +kernel
theorem dX8_turnedFor_36 : decode cX8_turnedFor 36 = .ok (.getfield 41, 3) := by decide +kernel
theorem dX8_turnedFor_39 : decode cX8_turnedFor 39 = .ok (.bipush 8, 2) := by decide +kernel
theorem dX8_turnedFor_41 : decode cX8_turnedFor 41 = .ok (.iload 5, 2) := by decide +kernel
theorem dX8_turnedFor_43 : decode cX8_turnedFor 43 = .ok (.imul, 1) := by decide +kernel
theorem dX8_turnedFor_44 : decode cX8_turnedFor 44 = .ok (.iload 4, 2) := by decide +kernel
theorem dX8_turnedFor_46 : decode cX8_turnedFor 46 = .ok (.iadd, 1) := by decide +kernel
theorem dX8_turnedFor_47 : decode cX8_turnedFor 47 = .ok (.iaload, 1) := by decide +kernel
theorem dX8_turnedFor_48 : decode cX8_turnedFor 48 = .ok (.if_icmp .ne 7, 3) := by decide +kernel
theorem dX8_turnedFor_51 : decode cX8_turnedFor 51 = .ok (.iconst 1, 1) := by decide +kernel
theorem dX8_turnedFor_52 : decode cX8_turnedFor 52 = .ok (.goto 4, 3) := by decide +kernel
theorem dX8_turnedFor_55 : decode cX8_turnedFor 55 = .ok (.iconst 0, 1) := by decide +kernel
theorem dX8_turnedFor_56 : decode cX8_turnedFor 56 = .ok (.istore 6, 2) := by decide +kernel
theorem dX8_turnedFor_58 : decode cX8_turnedFor 58 = .ok (.iload_n 3, 1) := by decide +kernel
theorem dX8_turnedFor_59 : decode cX8_turnedFor 59 = .ok (.iload 6, 2) := by decide +kernel
theorem dX8_turnedFor_61 : decode cX8_turnedFor 61 = .ok (.ifCond .eq 7, 3) := by decide +kernel
theorem dX8_turnedFor_64 : decode cX8_turnedFor 64 = .ok (.iconst 0, 1) := by decide +kernel
theorem dX8_turnedFor_65 : decode cX8_turnedFor 65 = .ok (.goto 7, 3) := by decide +kernel
theorem dX8_turnedFor_68 : decode cX8_turnedFor 68 = .ok (.iconst 1, 1) := by decide +kernel
theorem dX8_turnedFor_69 : decode cX8_turnedFor 69 = .ok (.iload 5, 2) := by decide +kernel
theorem dX8_turnedFor_71 : decode cX8_turnedFor 71 = .ok (.ishl, 1) := by decide +kernel
theorem dX8_turnedFor_72 : decode cX8_turnedFor 72 = .ok (.ior, 1) := by decide +kernel
theorem dX8_turnedFor_73 : decode cX8_turnedFor 73 = .ok (.istore_n 3, 1) := by decide +kernel
theorem dX8_turnedFor_74 : decode cX8_turnedFor 74 = .ok (.aload_n 0, 1) := by decide +kernel
theorem dX8_turnedFor_75 : decode cX8_turnedFor 75 = .ok (.iload 5, 2) := by decide +kernel
theorem dX8_turnedFor_77 : decode cX8_turnedFor 77 = .ok (.iload 6, 2) := by decide +kernel
theorem dX8_turnedFor_79 : decode cX8_turnedFor 79 = .ok (.ifCond .ne 7, 3) := by decide +kernel
theorem dX8_turnedFor_82 : decode cX8_turnedFor 82 = .ok (.iconst 1, 1) := by decide +kernel
theorem dX8_turnedFor_83 : decode cX8_turnedFor 83 = .ok (.goto 4, 3) := by decide +kernel
theorem dX8_turnedFor_86 : decode cX8_turnedFor 86 = .ok (.iconst 0, 1) := by decide +kernel
theorem dX8_turnedFor_87 : decode cX8_turnedFor 87 = .ok (.iload_n 1, 1) := by decide +kernel
theorem dX8_turnedFor_88 : decode cX8_turnedFor 88 = .ok (.iload 4, 2) := by decide +kernel
theorem dX8_turnedFor_90 : decode cX8_turnedFor 90 = .ok (.invokevirtual 121, 3) := by decide +kernel
theorem dX8_turnedFor_93 : decode cX8_turnedFor 93 = .ok (.pop, 1) := by decide +kernel
theorem dX8_turnedFor_94 : decode cX8_turnedFor 94 = .ok (.aload_n 0, 1) := by decide +kernel
theorem dX8_turnedFor_95 : decode cX8_turnedFor 95 = .ok (.getfield 115, 3) := by decide +kernel
theorem dX8_turnedFor_98 : decode cX8_turnedFor 98 = .ok (.istore 4, 2) := by decide +kernel
theorem dX8_turnedFor_100 : decode cX8_turnedFor 100 = .ok (.iinc 5 1, 3) := by decide +kernel
theorem dX8_turnedFor_103 : decode cX8_turnedFor 103 = .ok (.goto (-87), 3) := by decide +kernel
theorem dX8_turnedFor_106 : decode cX8_turnedFor 106 = .ok (.iload_n 3, 1) := by decide +kernel
theorem dX8_turnedFor_107 : decode cX8_turnedFor 107 = .ok (.ireturn, 1) := by decide +kernel
theorem dX8_isNext_0 : decode cX8_isNext 0 = .ok (.iload_n 1, 1) := by decide +kernel
theorem dX8_isNext_1 : decode cX8_isNext 1 = .ok (.iconst 2, 1) := by decide +kernel
theorem dX8_isNext_2 : decode cX8_isNext 2 = .ok (.isub, 1) := by decide +kernel
theorem dX8_isNext_3 : decode cX8_isNext 3 = .ok (.istore_n 2, 1) := by decide +kernel
theorem dX8_isNext_4 : decode cX8_isNext 4 = .ok (.iload_n 2, 1) := by decide +kernel
theorem dX8_isNext_5 : decode cX8_isNext 5 = .ok (.ifCond .lt 26, 3) := by decide +kernel
theorem dX8_isNext_8 : decode cX8_isNext 8 = .ok (.aload_n 0, 1) := by decide +kernel
theorem dX8_isNext_9 : decode cX8_isNext 9 = .ok (.getfield 53, 3) := by decide +kernel
theorem dX8_isNext_12 : decode cX8_isNext 12 = .ok (.iload_n 2, 1) := by decide +kernel
theorem dX8_isNext_13 : decode cX8_isNext 13 = .ok (.iaload, 1) := by decide +kernel
theorem dX8_isNext_14 : decode cX8_isNext 14 = .ok (.aload_n 0, 1) := by decide +kernel
theorem dX8_isNext_15 : decode cX8_isNext 15 = .ok (.getfield 53, 3) := by decide +kernel
theorem dX8_isNext_18 : decode cX8_isNext 18 = .ok (.iload_n 2, 1) := by decide +kernel
theorem dX8_isNext_19 : decode cX8_isNext 19 = .ok (.iconst 1, 1) := by decide +kernel
theorem dX8_isNext_20 : decode cX8_isNext 20 = .ok (.iadd, 1) := by decide +kernel
theorem dX8_isNext_21 : decode cX8_isNext 21 = .ok (.iaload, 1) := by decide +kernel
theorem dX8_isNext_22 : decode cX8_isNext 22 = .ok (.if_icmp .le 9, 3) := by decide +kernel
theorem dX8_isNext_25 : decode cX8_isNext 25 = .ok (.iinc 2 (-1), 3) := by decide +kernel
theorem dX8_isNext_28 : decode cX8_isNext 28 = .ok (.goto (-24), 3) := by decide +kernel
theorem dX8_isNext_31 : decode cX8_isNext 31 = .ok (.iload_n 2, 1) := by decide +kernel
theorem dX8_isNext_32 : decode cX8_isNext 32 = .ok (.ifCond .ge 5, 3) := by decide +kernel
theorem dX8_isNext_35 : decode cX8_isNext 35 = .ok (.iconst 0, 1) := by decide +kernel
theorem dX8_isNext_36 : decode cX8_isNext 36 = .ok (.ireturn, 1) := by decide +kernel
theorem dX8_isNext_37 : decode cX8_isNext 37 = .ok (.iload_n 1, 1) := by decide +kernel
theorem dX8_isNext_38 : decode cX8_isNext 38 = .ok (.iconst 1, 1) := by decide +kernel
theorem dX8_isNext_39 : decode cX8_isNext 39 = .ok (.isub, 1) := by decide +kernel
theorem dX8_isNext_40 : decode cX8_isNext 40 = .ok (.istore_n 3, 1) := by decide +kernel
theorem dX8_isNext_41 : decode cX8_isNext 41 = .ok (.aload_n 0, 1) := by decide +kernel
theorem dX8_isNext_42 : decode cX8_isNext 42 = .ok (.getfield 53, 3) := by decide +kernel
theorem dX8_isNext_45 : decode cX8_isNext 45 = .ok (.iload_n 3, 1) := by decide +kernel
theorem dX8_isNext_46 : decode cX8_isNext 46 = .ok (.iaload, 1) := by decide +kernel
theorem dX8_isNext_47 : decode cX8_isNext 47 = .ok (.aload_n 0, 1) := by decide +kernel
theorem dX8_isNext_48 : decode cX8_isNext 48 = .ok (.getfield 53, 3) := by decide +kernel
theorem dX8_isNext_51 : decode cX8_isNext 51 = .ok (.iload_n 2, 1) := by decide +kernel
theorem dX8_isNext_52 : decode cX8_isNext 52 = .ok (.iaload, 1) := by decide +kernel
theorem dX8_isNext_53 : decode cX8_isNext 53 = .ok (.if_icmp .ge 9, 3) := by decide +kernel
theorem dX8_isNext_56 : decode cX8_isNext 56 = .ok (.iinc 3 (-1), 3) := by decide +kernel
theorem dX8_isNext_59 : decode cX8_isNext 59 = .ok (.goto (-18), 3) := by decide +kernel
theorem dX8_isNext_62 : decode cX8_isNext 62 = .ok (.aload_n 0, 1) := by decide +kernel
theorem dX8_isNext_63 : decode cX8_isNext 63 = .ok (.iload_n 2, 1) := by decide +kernel
theorem dX8_isNext_64 : decode cX8_isNext 64 = .ok (.iload_n 3, 1) := by decide +kernel
theorem dX8_isNext_65 : decode cX8_isNext 65 = .ok (.invokevirtual 135, 3) := by decide +kernel
theorem dX8_isNext_68 : decode cX8_isNext 68 = .ok (.iload_n 2, 1) := by decide +kernel
theorem dX8_isNext_69 : decode cX8_isNext 69 = .ok (.iconst 1, 1) := by decide +kernel
theorem dX8_isNext_70 : decode cX8_isNext 70 = .ok (.iadd, 1) := by decide +kernel
theorem dX8_isNext_71 : decode cX8_isNext 71 = .ok (.istore 4, 2) := by decide +kernel
theorem dX8_isNext_73 : decode cX8_isNext 73 = .ok (.iload_n 1, 1) := by decide +kernel
theorem dX8_isNext_74 : decode cX8_isNext 74 = .ok (.iconst 1, 1) := by decide +kernel
theorem dX8_isNext_75 : decode cX8_isNext 75 = .ok (.isub, 1) := by decide +kernel
theorem dX8_isNext_76 : decode cX8_isNext 76 = .ok (.istore 5, 2) := by decide +kernel
theorem dX8_isNext_78 : decode cX8_isNext 78 = .ok (.iload 4, 2) := by decide +kernel
theorem dX8_isNext_80 : decode cX8_isNext 80 = .ok (.iload 5, 2) := by decide +kernel
theorem dX8_isNext_82 : decode cX8_isNext 82 = .ok (.if_icmp .ge 20, 3) := by decide +kernel
theorem dX8_isNext_85 : decode cX8_isNext 85 = .ok (.aload_n 0, 1) := by decide +kernel
theorem dX8_isNext_86 : decode cX8_isNext 86 = .ok (.iload 4, 2) := by decide +kernel
theorem dX8_isNext_88 : decode cX8_isNext 88 = .ok (.iload 5, 2) := by decide +kernel
theorem dX8_isNext_90 : decode cX8_isNext 90 = .ok (.invokevirtual 135, 3) := by decide +kernel
theorem dX8_isNext_93 : decode cX8_isNext 93 = .ok (.iinc 4 1, 3) := by decide +kernel
theorem dX8_isNext_96 : decode cX8_isNext 96 = .ok (.iinc 5 (-1), 3) := by decide +kernel
theorem dX8_isNext_99 : decode cX8_isNext 99 = .ok (.goto (-21), 3) := by decide +kernel
theorem dX8_isNext_102 : decode cX8_isNext 102 = .ok (.iconst 1, 1) := by decide +kernel
theorem dX8_isNext_103 : decode cX8_isNext 103 = .ok (.ireturn, 1) := by decide +kernel
theorem dX8_swap_0 : decode cX8_swap 0 = .ok (.aload_n 0, 1) := by decide +kernel
theorem dX8_swap_1 : decode cX8_swap 1 = .ok (.getfield 53, 3) := by decide +kernel
theorem dX8_swap_4 : decode cX8_swap 4 = .ok (.iload_n 1, 1) := by decide +kernel
theorem dX8_swap_5 : decode cX8_swap 5 = .ok (.iaload, 1) := by decide +kernel
theorem dX8_swap_6 : decode cX8_swap 6 = .ok (.istore_n 3, 1) := by decide +kernel
theorem dX8_swap_7 : decode cX8_swap 7 = .ok (.aload_n 0, 1) := by decide +kernel
theorem dX8_swap_8 : decode cX8_swap 8 = .ok (.getfield 53, 3) := by decide +kernel
theorem dX8_swap_11 : decode cX8_swap 11 = .ok (.iload_n 1, 1) := by decide +kernel
theorem dX8_swap_12 : decode cX8_swap 12 = .ok (.aload_n 0, 1) := by decide +kernel
theorem dX8_swap_13 : decode cX8_swap 13 = .ok (.getfield 53, 3) := by decide +kernel
theorem dX8_swap_16 : decode cX8_swap 16 = .ok (.iload_n 2, 1) := by decide +kernel
theorem dX8_swap_17 : decode cX8_swap 17 = .ok (.iaload, 1) := by decide +kernel
theorem dX8_swap_18 : decode cX8_swap 18 = .ok (.iastore, 1) := by decide +kernel
theorem dX8_swap_19 : decode cX8_swap 19 = .ok (.aload_n 0, 1) := by decide +kernel
theorem dX8_swap_20 : decode cX8_swap 20 = .ok (.getfield 53, 3) := by decide +kernel
theorem dX8_swap_23 : decode cX8_swap 23 = .ok (.iload_n 2, 1) := by decide +kernel
theorem dX8_swap_24 : decode cX8_swap 24 = .ok (.iload_n 3, 1) := by decide +kernel
theorem dX8_swap_25 : decode cX8_swap 25 = .ok (.iastore, 1) := by decide +kernel
theorem dX8_swap_26 : decode cX8_swap 26 = .ok (.return_, 1) := by decide +kernel
theorem dX8_laySet_0 : decode cX8_laySet 0 = .ok (.iconst 0, 1) := by decide +kernel
theorem dX8_laySet_1 : decode cX8_laySet 1 = .ok (.istore_n 3, 1) := by decide +kernel
theorem dX8_laySet_2 : decode cX8_laySet 2 = .ok (.iconst 0, 1) := by decide +kernel
theorem dX8_laySet_3 : decode cX8_laySet 3 = .ok (.istore 4, 2) := by decide +kernel
theorem dX8_laySet_5 : decode cX8_laySet 5 = .ok (.iload 4, 2) := by decide +kernel
theorem dX8_laySet_7 : decode cX8_laySet 7 = .ok (.bipush 7, 2) := by decide +kernel
theorem dX8_laySet_9 : decode cX8_laySet 9 = .ok (.if_icmp .ge 36, 3) := by decide +kernel
theorem dX8_laySet_12 : decode cX8_laySet 12 = .ok (.iload_n 1, 1) := by decide +kernel
theorem dX8_laySet_13 : decode cX8_laySet 13 = .ok (.iload 4, 2) := by decide +kernel
theorem dX8_laySet_15 : decode cX8_laySet 15 = .ok (.invokestatic 103, 3) := by decide +kernel
theorem dX8_laySet_18 : decode cX8_laySet 18 = .ok (.ifCond .eq 21, 3) := by decide +kernel
theorem dX8_laySet_21 : decode cX8_laySet 21 = .ok (.aload_n 0, 1) := by decide +kernel
theorem dX8_laySet_22 : decode cX8_laySet 22 = .ok (.getfield 50, 3) := by decide +kernel
theorem dX8_laySet_25 : decode cX8_laySet 25 = .ok (.iload_n 3, 1) := by decide +kernel
theorem dX8_laySet_26 : decode cX8_laySet 26 = .ok (.iload 4, 2) := by decide +kernel
theorem dX8_laySet_28 : decode cX8_laySet 28 = .ok (.iastore, 1) := by decide +kernel
theorem dX8_laySet_29 : decode cX8_laySet 29 = .ok (.aload_n 0, 1) := by decide +kernel
theorem dX8_laySet_30 : decode cX8_laySet 30 = .ok (.getfield 53, 3) := by decide +kernel
theorem dX8_laySet_33 : decode cX8_laySet 33 = .ok (.iload_n 3, 1) := by decide +kernel
theorem dX8_laySet_34 : decode cX8_laySet 34 = .ok (.iload_n 3, 1) := by decide +kernel
theorem dX8_laySet_35 : decode cX8_laySet 35 = .ok (.iastore, 1) := by decide +kernel
theorem dX8_laySet_36 : decode cX8_laySet 36 = .ok (.iinc 3 1, 3) := by decide +kernel
theorem dX8_laySet_39 : decode cX8_laySet 39 = .ok (.iinc 4 1, 3) := by decide +kernel
theorem dX8_laySet_42 : decode cX8_laySet 42 = .ok (.goto (-37), 3) := by decide +kernel
theorem dX8_laySet_45 : decode cX8_laySet 45 = .ok (.sipush 128, 3) := by decide +kernel
theorem dX8_laySet_48 : decode cX8_laySet 48 = .ok (.iload_n 2, 1) := by decide +kernel
theorem dX8_laySet_49 : decode cX8_laySet 49 = .ok (.imul, 1) := by decide +kernel
theorem dX8_laySet_50 : decode cX8_laySet 50 = .ok (.iload_n 1, 1) := by decide +kernel
theorem dX8_laySet_51 : decode cX8_laySet 51 = .ok (.iadd, 1) := by decide +kernel
theorem dX8_laySet_52 : decode cX8_laySet 52 = .ok (.istore 4, 2) := by decide +kernel
theorem dX8_laySet_54 : decode cX8_laySet 54 = .ok (.aload_n 0, 1) := by decide +kernel
theorem dX8_laySet_55 : decode cX8_laySet 55 = .ok (.getfield 44, 3) := by decide +kernel
theorem dX8_laySet_58 : decode cX8_laySet 58 = .ok (.iload 4, 2) := by decide +kernel
theorem dX8_laySet_60 : decode cX8_laySet 60 = .ok (.bipush (-6), 2) := by decide +kernel
theorem dX8_laySet_62 : decode cX8_laySet 62 = .ok (.iastore, 1) := by decide +kernel
theorem dX8_laySet_63 : decode cX8_laySet 63 = .ok (.iconst 1, 1) := by decide +kernel
theorem dX8_laySet_64 : decode cX8_laySet 64 = .ok (.istore 5, 2) := by decide +kernel
theorem dX8_laySet_66 : decode cX8_laySet 66 = .ok (.iload 5, 2) := by decide +kernel
theorem dX8_laySet_68 : decode cX8_laySet 68 = .ok (.ifCond .eq 126, 3) := by decide +kernel
theorem dX8_laySet_71 : decode cX8_laySet 71 = .ok (.iconst 0, 1) := by decide +kernel
theorem dX8_laySet_72 : decode cX8_laySet 72 = .ok (.istore 6, 2) := by decide +kernel
theorem dX8_laySet_74 : decode cX8_laySet 74 = .ok (.iload 6, 2) := by decide +kernel
theorem dX8_laySet_76 : decode cX8_laySet 76 = .ok (.iload_n 3, 1) := by decide +kernel
theorem dX8_laySet_77 : decode cX8_laySet 77 = .ok (.if_icmp .ge 28, 3) := by decide +kernel
theorem dX8_laySet_80 : decode cX8_laySet 80 = .ok (.aload_n 0, 1) := by decide +kernel
theorem dX8_laySet_81 : decode cX8_laySet 81 = .ok (.getfield 38, 3) := by decide +kernel
theorem dX8_laySet_84 : decode cX8_laySet 84 = .ok (.aload_n 0, 1) := by decide +kernel
theorem dX8_laySet_85 : decode cX8_laySet 85 = .ok (.getfield 50, 3) := by decide +kernel
theorem dX8_laySet_88 : decode cX8_laySet 88 = .ok (.iload 6, 2) := by decide +kernel
theorem dX8_laySet_90 : decode cX8_laySet 90 = .ok (.iaload, 1) := by decide +kernel
theorem dX8_laySet_91 : decode cX8_laySet 91 = .ok (.aload_n 0, 1) := by decide +kernel
theorem dX8_laySet_92 : decode cX8_laySet 92 = .ok (.getfield 53, 3) := by decide +kernel
theorem dX8_laySet_95 : decode cX8_laySet 95 = .ok (.iload 6, 2) := by decide +kernel
theorem dX8_laySet_97 : decode cX8_laySet 97 = .ok (.iaload, 1) := by decide +kernel
theorem dX8_laySet_98 : decode cX8_laySet 98 = .ok (.iastore, 1) := by decide +kernel
theorem dX8_laySet_99 : decode cX8_laySet 99 = .ok (.iinc 6 1, 3) := by decide +kernel
theorem dX8_laySet_102 : decode cX8_laySet 102 = .ok (.goto (-28), 3) := by decide +kernel
theorem dX8_laySet_105 : decode cX8_laySet 105 = .ok (.aload_n 0, 1) := by decide +kernel
theorem dX8_laySet_106 : decode cX8_laySet 106 = .ok (.iload_n 1, 1) := by decide +kernel
theorem dX8_laySet_107 : decode cX8_laySet 107 = .ok (.iload_n 2, 1) := by decide +kernel
theorem dX8_laySet_108 : decode cX8_laySet 108 = .ok (.invokevirtual 131, 3) := by decide +kernel
theorem dX8_laySet_111 : decode cX8_laySet 111 = .ok (.istore 6, 2) := by decide +kernel
theorem dX8_laySet_113 : decode cX8_laySet 113 = .ok (.aload_n 0, 1) := by decide +kernel
theorem dX8_laySet_114 : decode cX8_laySet 114 = .ok (.getfield 44, 3) := by decide +kernel
theorem dX8_laySet_117 : decode cX8_laySet 117 = .ok (.iload 4, 2) := by decide +kernel
theorem dX8_laySet_119 : decode cX8_laySet 119 = .ok (.iaload, 1) := by decide +kernel
theorem dX8_laySet_120 : decode cX8_laySet 120 = .ok (.ifCond .lt 15, 3) := by decide +kernel
theorem dX8_laySet_123 : decode cX8_laySet 123 = .ok (.iload 6, 2) := by decide +kernel
theorem dX8_laySet_125 : decode cX8_laySet 125 = .ok (.aload_n 0, 1) := by decide +kernel
theorem dX8_laySet_126 : decode cX8_laySet 126 = .ok (.getfield 44, 3) := by decide +kernel
theorem dX8_laySet_129 : decode cX8_laySet 129 = .ok (.iload 4, 2) := by decide +kernel
theorem dX8_laySet_131 : decode cX8_laySet 131 = .ok (.iaload, 1) := by decide +kernel
theorem dX8_laySet_132 : decode cX8_laySet 132 = .ok (.if_icmp .ge 52, 3) := by decide +kernel
theorem dX8_laySet_135 : decode cX8_laySet 135 = .ok (.aload_n 0, 1) := by decide +kernel
theorem dX8_laySet_136 : decode cX8_laySet 136 = .ok (.getfield 44, 3) := by decide +kernel
theorem dX8_laySet_139 : decode cX8_laySet 139 = .ok (.iload 4, 2) := by decide +kernel
theorem dX8_laySet_141 : decode cX8_laySet 141 = .ok (.iload 6, 2) := by decide +kernel
theorem dX8_laySet_143 : decode cX8_laySet 143 = .ok (.iastore, 1) := by decide +kernel
theorem dX8_laySet_144 : decode cX8_laySet 144 = .ok (.iconst 0, 1) := by decide +kernel
theorem dX8_laySet_145 : decode cX8_laySet 145 = .ok (.istore 7, 2) := by decide +kernel
theorem dX8_laySet_147 : decode cX8_laySet 147 = .ok (.iload 7, 2) := by decide +kernel
theorem dX8_laySet_149 : decode cX8_laySet 149 = .ok (.iload_n 3, 1) := by decide +kernel
theorem dX8_laySet_150 : decode cX8_laySet 150 = .ok (.if_icmp .ge 34, 3) := by decide +kernel
theorem dX8_laySet_153 : decode cX8_laySet 153 = .ok (.aload_n 0, 1) := by decide +kernel
theorem dX8_laySet_154 : decode cX8_laySet 154 = .ok (.getfield 47, 3) := by decide +kernel
theorem dX8_laySet_157 : decode cX8_laySet 157 = .ok (.bipush 7, 2) := by decide +kernel
theorem dX8_laySet_159 : decode cX8_laySet 159 = .ok (.iload 4, 2) := by decide +kernel
theorem dX8_laySet_161 : decode cX8_laySet 161 = .ok (.imul, 1) := by decide +kernel
theorem dX8_laySet_162 : decode cX8_laySet 162 = .ok (.aload_n 0, 1) := by decide +kernel
theorem dX8_laySet_163 : decode cX8_laySet 163 = .ok (.getfield 50, 3) := by decide +kernel
theorem dX8_laySet_166 : decode cX8_laySet 166 = .ok (.iload 7, 2) := by decide +kernel
theorem dX8_laySet_168 : decode cX8_laySet 168 = .ok (.iaload, 1) := by decide +kernel
theorem dX8_laySet_169 : decode cX8_laySet 169 = .ok (.iadd, 1) := by decide +kernel
theorem dX8_laySet_170 : decode cX8_laySet 170 = .ok (.aload_n 0, 1) := by decide +kernel
theorem dX8_laySet_171 : decode cX8_laySet 171 = .ok (.getfield 53, 3) := by decide +kernel
theorem dX8_laySet_174 : decode cX8_laySet 174 = .ok (.iload 7, 2) := by decide +kernel
theorem dX8_laySet_176 : decode cX8_laySet 176 = .ok (.iaload, 1) := by decide +kernel
theorem dX8_laySet_177 : decode cX8_laySet 177 = .ok (.iastore, 1) := by decide +kernel
theorem dX8_laySet_178 : decode cX8_laySet 178 = .ok (.iinc 7 1, 3) := by decide +kernel
theorem dX8_laySet_181 : decode cX8_laySet 181 = .ok (.goto (-34), 3) := by decide +kernel
theorem dX8_laySet_184 : decode cX8_laySet 184 = .ok (.aload_n 0, 1) := by decide +kernel
theorem dX8_laySet_185 : decode cX8_laySet 185 = .ok (.iload_n 3, 1) := by decide +kernel
theorem dX8_laySet_186 : decode cX8_laySet 186 = .ok (.invokevirtual 139, 3) := by decide +kernel
theorem dX8_laySet_189 : decode cX8_laySet 189 = .ok (.istore 5, 2) := by decide +kernel
theorem dX8_laySet_191 : decode cX8_laySet 191 = .ok (.goto (-125), 3) := by decide +kernel
theorem dX8_laySet_194 : decode cX8_laySet 194 = .ok (.return_, 1) := by decide +kernel
theorem dX8_laySets_0 : decode cX8_laySets 0 = .ok (.aload_n 0, 1) := by decide +kernel
theorem dX8_laySets_1 : decode cX8_laySets 1 = .ok (.getfield 32, 3) := by decide +kernel
theorem dX8_laySets_4 : decode cX8_laySets 4 = .ok (.iload_n 1, 1) := by decide +kernel
theorem dX8_laySets_5 : decode cX8_laySets 5 = .ok (.baload, 1) := by decide +kernel
theorem dX8_laySets_6 : decode cX8_laySets 6 = .ok (.ifCond .eq 55, 3) := by decide +kernel
theorem dX8_laySets_9 : decode cX8_laySets 9 = .ok (.aload_n 0, 1) := by decide +kernel
theorem dX8_laySets_10 : decode cX8_laySets 10 = .ok (.getfield 32, 3) := by decide +kernel
theorem dX8_laySets_13 : decode cX8_laySets 13 = .ok (.iload_n 1, 1) := by decide +kernel
theorem dX8_laySets_14 : decode cX8_laySets 14 = .ok (.iconst 0, 1) := by decide +kernel
theorem dX8_laySets_15 : decode cX8_laySets 15 = .ok (.bastore, 1) := by decide +kernel
theorem dX8_laySets_16 : decode cX8_laySets 16 = .ok (.aload_n 0, 1) := by decide +kernel
theorem dX8_laySets_17 : decode cX8_laySets 17 = .ok (.invokevirtual 142, 3) := by decide +kernel
theorem dX8_laySets_20 : decode cX8_laySets 20 = .ok (.istore_n 2, 1) := by decide +kernel
theorem dX8_laySets_21 : decode cX8_laySets 21 = .ok (.aload_n 0, 1) := by decide +kernel
theorem dX8_laySets_22 : decode cX8_laySets 22 = .ok (.getfield 44, 3) := by decide +kernel
theorem dX8_laySets_25 : decode cX8_laySets 25 = .ok (.sipush 128, 3) := by decide +kernel
theorem dX8_laySets_28 : decode cX8_laySets 28 = .ok (.iload_n 1, 1) := by decide +kernel
theorem dX8_laySets_29 : decode cX8_laySets 29 = .ok (.imul, 1) := by decide +kernel
theorem dX8_laySets_30 : decode cX8_laySets 30 = .ok (.iconst 0, 1) := by decide +kernel
theorem dX8_laySets_31 : decode cX8_laySets 31 = .ok (.iastore, 1) := by decide +kernel
theorem dX8_laySets_32 : decode cX8_laySets 32 = .ok (.iconst 1, 1) := by decide +kernel
theorem dX8_laySets_33 : decode cX8_laySets 33 = .ok (.istore_n 3, 1) := by decide +kernel
theorem dX8_laySets_34 : decode cX8_laySets 34 = .ok (.iload_n 3, 1) := by decide +kernel
theorem dX8_laySets_35 : decode cX8_laySets 35 = .ok (.sipush 128, 3) := by decide +kernel
theorem dX8_laySets_38 : decode cX8_laySets 38 = .ok (.if_icmp .ge 23, 3) := by decide +kernel
theorem dX8_laySets_41 : decode cX8_laySets 41 = .ok (.iload_n 3, 1) := by decide +kernel
theorem dX8_laySets_42 : decode cX8_laySets 42 = .ok (.iload_n 2, 1) := by decide +kernel
theorem dX8_laySets_43 : decode cX8_laySets 43 = .ok (.iconst (-1), 1) := by decide +kernel
theorem dX8_laySets_44 : decode cX8_laySets 44 = .ok (.ixor, 1) := by decide +kernel
theorem dX8_laySets_45 : decode cX8_laySets 45 = .ok (.iand, 1) := by decide +kernel
theorem dX8_laySets_46 : decode cX8_laySets 46 = .ok (.ifCond .ne 9, 3) := by decide +kernel
theorem dX8_laySets_49 : decode cX8_laySets 49 = .ok (.aload_n 0, 1) := by decide +kernel
theorem dX8_laySets_50 : decode cX8_laySets 50 = .ok (.iload_n 3, 1) := by decide +kernel
theorem dX8_laySets_51 : decode cX8_laySets 51 = .ok (.iload_n 1, 1) := by decide +kernel
theorem dX8_laySets_52 : decode cX8_laySets 52 = .ok (.invokevirtual 146, 3) := by decide +kernel
theorem dX8_laySets_55 : decode cX8_laySets 55 = .ok (.iinc 3 1, 3) := by decide +kernel
theorem dX8_laySets_58 : decode cX8_laySets 58 = .ok (.goto (-24), 3) := by decide +kernel
theorem dX8_laySets_61 : decode cX8_laySets 61 = .ok (.return_, 1) := by decide +kernel
theorem dX8_power_0 : decode cX8_power 0 = .ok (.iconst 1, 1) := by decide +kernel
theorem dX8_power_1 : decode cX8_power 1 = .ok (.istore_n 2, 1) := by decide +kernel
theorem dX8_power_2 : decode cX8_power 2 = .ok (.iconst 0, 1) := by decide +kernel
theorem dX8_power_3 : decode cX8_power 3 = .ok (.istore_n 3, 1) := by decide +kernel
theorem dX8_power_4 : decode cX8_power 4 = .ok (.iload_n 3, 1) := by decide +kernel
theorem dX8_power_5 : decode cX8_power 5 = .ok (.iload_n 1, 1) := by decide +kernel
theorem dX8_power_6 : decode cX8_power 6 = .ok (.if_icmp .ge 13, 3) := by decide +kernel
theorem dX8_power_9 : decode cX8_power 9 = .ok (.iload_n 2, 1) := by decide +kernel
theorem dX8_power_10 : decode cX8_power 10 = .ok (.iload_n 0, 1) := by decide +kernel
theorem dX8_power_11 : decode cX8_power 11 = .ok (.imul, 1) := by decide +kernel
theorem dX8_power_12 : decode cX8_power 12 = .ok (.istore_n 2, 1) := by decide +kernel
theorem dX8_power_13 : decode cX8_power 13 = .ok (.iinc 3 1, 3) := by decide +kernel
theorem dX8_power_16 : decode cX8_power 16 = .ok (.goto (-12), 3) := by decide +kernel
theorem dX8_power_19 : decode cX8_power 19 = .ok (.iload_n 2, 1) := by decide +kernel
theorem dX8_power_20 : decode cX8_power 20 = .ok (.ireturn, 1) := by decide +kernel
theorem dX8_bits_0 : decode cX8_bits 0 = .ok (.iconst 0, 1) := by decide +kernel
theorem dX8_bits_1 : decode cX8_bits 1 = .ok (.istore_n 1, 1) := by decide +kernel
theorem dX8_bits_2 : decode cX8_bits 2 = .ok (.iconst 0, 1) := by decide +kernel
theorem dX8_bits_3 : decode cX8_bits 3 = .ok (.istore_n 2, 1) := by decide +kernel
theorem dX8_bits_4 : decode cX8_bits 4 = .ok (.iload_n 2, 1) := by decide +kernel
theorem dX8_bits_5 : decode cX8_bits 5 = .ok (.bipush 7, 2) := by decide +kernel
theorem dX8_bits_7 : decode cX8_bits 7 = .ok (.if_icmp .ge 17, 3) := by decide +kernel
theorem dX8_bits_10 : decode cX8_bits 10 = .ok (.iload_n 1, 1) := by decide +kernel
theorem dX8_bits_11 : decode cX8_bits 11 = .ok (.iload_n 0, 1) := by decide +kernel
theorem dX8_bits_12 : decode cX8_bits 12 = .ok (.iload_n 2, 1) := by decide +kernel
theorem dX8_bits_13 : decode cX8_bits 13 = .ok (.ishr, 1) := by decide +kernel
theorem dX8_bits_14 : decode cX8_bits 14 = .ok (.iconst 1, 1) := by decide +kernel
theorem dX8_bits_15 : decode cX8_bits 15 = .ok (.iand, 1) := by decide +kernel
theorem dX8_bits_16 : decode cX8_bits 16 = .ok (.iadd, 1) := by decide +kernel
theorem dX8_bits_17 : decode cX8_bits 17 = .ok (.istore_n 1, 1) := by decide +kernel
theorem dX8_bits_18 : decode cX8_bits 18 = .ok (.iinc 2 1, 3) := by decide +kernel
theorem dX8_bits_21 : decode cX8_bits 21 = .ok (.goto (-17), 3) := by decide +kernel
theorem dX8_bits_24 : decode cX8_bits 24 = .ok (.iload_n 1, 1) := by decide +kernel
theorem dX8_bits_25 : decode cX8_bits 25 = .ok (.ireturn, 1) := by decide +kernel
theorem dX8_part_0 : decode cX8_part 0 = .ok (.iload_n 3, 1) := by decide +kernel
theorem dX8_part_1 : decode cX8_part 1 = .ok (.istore 4, 2) := by decide +kernel
theorem dX8_part_3 : decode cX8_part 3 = .ok (.iconst 0, 1) := by decide +kernel
theorem dX8_part_4 : decode cX8_part 4 = .ok (.istore 5, 2) := by decide +kernel
theorem dX8_part_6 : decode cX8_part 6 = .ok (.iload 5, 2) := by decide +kernel
theorem dX8_part_8 : decode cX8_part 8 = .ok (.iconst 3, 1) := by decide +kernel
theorem dX8_part_9 : decode cX8_part 9 = .ok (.if_icmp .ge 17, 3) := by decide +kernel
theorem dX8_part_12 : decode cX8_part 12 = .ok (.aload_n 0, 1) := by decide +kernel
theorem dX8_part_13 : decode cX8_part 13 = .ok (.getfield 59, 3) := by decide +kernel
theorem dX8_part_16 : decode cX8_part 16 = .ok (.iload 5, 2) := by decide +kernel
theorem dX8_part_18 : decode cX8_part 18 = .ok (.iconst 0, 1) := by decide +kernel
theorem dX8_part_19 : decode cX8_part 19 = .ok (.iastore, 1) := by decide +kernel
theorem dX8_part_20 : decode cX8_part 20 = .ok (.iinc 5 1, 3) := by decide +kernel
theorem dX8_part_23 : decode cX8_part 23 = .ok (.goto (-17), 3) := by decide +kernel
theorem dX8_part_26 : decode cX8_part 26 = .ok (.bipush 6, 2) := by decide +kernel
theorem dX8_part_28 : decode cX8_part 28 = .ok (.istore 5, 2) := by decide +kernel
theorem dX8_part_30 : decode cX8_part 30 = .ok (.iload 5, 2) := by decide +kernel
theorem dX8_part_32 : decode cX8_part 32 = .ok (.ifCond .lt 51, 3) := by decide +kernel
theorem dX8_part_35 : decode cX8_part 35 = .ok (.iload_n 1, 1) := by decide +kernel
theorem dX8_part_36 : decode cX8_part 36 = .ok (.iload 5, 2) := by decide +kernel
theorem dX8_part_38 : decode cX8_part 38 = .ok (.invokestatic 103, 3) := by decide +kernel
theorem dX8_part_41 : decode cX8_part 41 = .ok (.ifCond .eq 36, 3) := by decide +kernel
theorem dX8_part_44 : decode cX8_part 44 = .ok (.aload_n 0, 1) := by decide +kernel
theorem dX8_part_45 : decode cX8_part 45 = .ok (.getfield 56, 3) := by decide +kernel
theorem dX8_part_48 : decode cX8_part 48 = .ok (.iload 5, 2) := by decide +kernel
theorem dX8_part_50 : decode cX8_part 50 = .ok (.iload 4, 2) := by decide +kernel
theorem dX8_part_52 : decode cX8_part 52 = .ok (.iload_n 2, 1) := by decide +kernel
theorem dX8_part_53 : decode cX8_part 53 = .ok (.irem, 1) := by decide +kernel
theorem dX8_part_54 : decode cX8_part 54 = .ok (.iastore, 1) := by decide +kernel
theorem dX8_part_55 : decode cX8_part 55 = .ok (.aload_n 0, 1) := by decide +kernel
theorem dX8_part_56 : decode cX8_part 56 = .ok (.getfield 59, 3) := by decide +kernel
theorem dX8_part_59 : decode cX8_part 59 = .ok (.iload 4, 2) := by decide +kernel
theorem dX8_part_61 : decode cX8_part 61 = .ok (.iload_n 2, 1) := by decide +kernel
theorem dX8_part_62 : decode cX8_part 62 = .ok (.irem, 1) := by decide +kernel
theorem dX8_part_63 : decode cX8_part 63 = .ok (.dup2, 1) := by decide +kernel
theorem dX8_part_64 : decode cX8_part 64 = .ok (.iaload, 1) := by decide +kernel
theorem dX8_part_65 : decode cX8_part 65 = .ok (.iconst 1, 1) := by decide +kernel
theorem dX8_part_66 : decode cX8_part 66 = .ok (.iload 5, 2) := by decide +kernel
theorem dX8_part_68 : decode cX8_part 68 = .ok (.ishl, 1) := by decide +kernel
theorem dX8_part_69 : decode cX8_part 69 = .ok (.ior, 1) := by decide +kernel
theorem dX8_part_70 : decode cX8_part 70 = .ok (.iastore, 1) := by decide +kernel
theorem dX8_part_71 : decode cX8_part 71 = .ok (.iload 4, 2) := by decide +kernel
theorem dX8_part_73 : decode cX8_part 73 = .ok (.iload_n 2, 1) := by decide +kernel
theorem dX8_part_74 : decode cX8_part 74 = .ok (.idiv, 1) := by decide +kernel
theorem dX8_part_75 : decode cX8_part 75 = .ok (.istore 4, 2) := by decide +kernel
theorem dX8_part_77 : decode cX8_part 77 = .ok (.iinc 5 (-1), 3) := by decide +kernel
theorem dX8_part_80 : decode cX8_part 80 = .ok (.goto (-50), 3) := by decide +kernel
theorem dX8_part_83 : decode cX8_part 83 = .ok (.return_, 1) := by decide +kernel
theorem dX8_costNow_0 : decode cX8_costNow 0 = .ok (.aload_n 0, 1) := by decide +kernel
theorem dX8_costNow_1 : decode cX8_costNow 1 = .ok (.getfield 44, 3) := by decide +kernel
theorem dX8_costNow_4 : decode cX8_costNow 4 = .ok (.sipush 128, 3) := by decide +kernel
theorem dX8_costNow_7 : decode cX8_costNow 7 = .ok (.iload_n 1, 1) := by decide +kernel
theorem dX8_costNow_8 : decode cX8_costNow 8 = .ok (.imul, 1) := by decide +kernel
theorem dX8_costNow_9 : decode cX8_costNow 9 = .ok (.aload_n 0, 1) := by decide +kernel
theorem dX8_costNow_10 : decode cX8_costNow 10 = .ok (.getfield 59, 3) := by decide +kernel
theorem dX8_costNow_13 : decode cX8_costNow 13 = .ok (.iconst 0, 1) := by decide +kernel
theorem dX8_costNow_14 : decode cX8_costNow 14 = .ok (.iaload, 1) := by decide +kernel
theorem dX8_costNow_15 : decode cX8_costNow 15 = .ok (.iadd, 1) := by decide +kernel
theorem dX8_costNow_16 : decode cX8_costNow 16 = .ok (.iaload, 1) := by decide +kernel
theorem dX8_costNow_17 : decode cX8_costNow 17 = .ok (.aload_n 0, 1) := by decide +kernel
theorem dX8_costNow_18 : decode cX8_costNow 18 = .ok (.getfield 44, 3) := by decide +kernel
theorem dX8_costNow_21 : decode cX8_costNow 21 = .ok (.sipush 128, 3) := by decide +kernel
theorem dX8_costNow_24 : decode cX8_costNow 24 = .ok (.iload_n 1, 1) := by decide +kernel
theorem dX8_costNow_25 : decode cX8_costNow 25 = .ok (.imul, 1) := by decide +kernel
theorem dX8_costNow_26 : decode cX8_costNow 26 = .ok (.aload_n 0, 1) := by decide +kernel
theorem dX8_costNow_27 : decode cX8_costNow 27 = .ok (.getfield 59, 3) := by decide +kernel
theorem dX8_costNow_30 : decode cX8_costNow 30 = .ok (.iconst 1, 1) := by decide +kernel
theorem dX8_costNow_31 : decode cX8_costNow 31 = .ok (.iaload, 1) := by decide +kernel
theorem dX8_costNow_32 : decode cX8_costNow 32 = .ok (.iadd, 1) := by decide +kernel
theorem dX8_costNow_33 : decode cX8_costNow 33 = .ok (.iaload, 1) := by decide +kernel
theorem dX8_costNow_34 : decode cX8_costNow 34 = .ok (.iadd, 1) := by decide +kernel
theorem dX8_costNow_35 : decode cX8_costNow 35 = .ok (.aload_n 0, 1) := by decide +kernel
theorem dX8_costNow_36 : decode cX8_costNow 36 = .ok (.getfield 44, 3) := by decide +kernel
theorem dX8_costNow_39 : decode cX8_costNow 39 = .ok (.sipush 128, 3) := by decide +kernel
theorem dX8_costNow_42 : decode cX8_costNow 42 = .ok (.iload_n 1, 1) := by decide +kernel
theorem dX8_costNow_43 : decode cX8_costNow 43 = .ok (.imul, 1) := by decide +kernel
theorem dX8_costNow_44 : decode cX8_costNow 44 = .ok (.aload_n 0, 1) := by decide +kernel
theorem dX8_costNow_45 : decode cX8_costNow 45 = .ok (.getfield 59, 3) := by decide +kernel
theorem dX8_costNow_48 : decode cX8_costNow 48 = .ok (.iconst 2, 1) := by decide +kernel
theorem dX8_costNow_49 : decode cX8_costNow 49 = .ok (.iaload, 1) := by decide +kernel
theorem dX8_costNow_50 : decode cX8_costNow 50 = .ok (.iadd, 1) := by decide +kernel
theorem dX8_costNow_51 : decode cX8_costNow 51 = .ok (.iaload, 1) := by decide +kernel
theorem dX8_costNow_52 : decode cX8_costNow 52 = .ok (.iadd, 1) := by decide +kernel
theorem dX8_costNow_53 : decode cX8_costNow 53 = .ok (.ireturn, 1) := by decide +kernel
theorem dX8_layPlan_0 : decode cX8_layPlan 0 = .ok (.aload_n 0, 1) := by decide +kernel
theorem dX8_layPlan_1 : decode cX8_layPlan 1 = .ok (.iload_n 2, 1) := by decide +kernel
theorem dX8_layPlan_2 : decode cX8_layPlan 2 = .ok (.invokevirtual 149, 3) := by decide +kernel
theorem dX8_layPlan_5 : decode cX8_layPlan 5 = .ok (.aload_n 0, 1) := by decide +kernel
theorem dX8_layPlan_6 : decode cX8_layPlan 6 = .ok (.invokevirtual 142, 3) := by decide +kernel
theorem dX8_layPlan_9 : decode cX8_layPlan 9 = .ok (.istore_n 3, 1) := by decide +kernel
theorem dX8_layPlan_10 : decode cX8_layPlan 10 = .ok (.iload_n 1, 1) := by decide +kernel
theorem dX8_layPlan_11 : decode cX8_layPlan 11 = .ok (.iload_n 3, 1) := by decide +kernel
theorem dX8_layPlan_12 : decode cX8_layPlan 12 = .ok (.invokestatic 153, 3) := by decide +kernel
theorem dX8_layPlan_15 : decode cX8_layPlan 15 = .ok (.invokestatic 156, 3) := by decide +kernel
theorem dX8_layPlan_18 : decode cX8_layPlan 18 = .ok (.istore 4, 2) := by decide +kernel
theorem dX8_layPlan_20 : decode cX8_layPlan 20 = .ok (.iconst 0, 1) := by decide +kernel
theorem dX8_layPlan_21 : decode cX8_layPlan 21 = .ok (.istore 5, 2) := by decide +kernel
theorem dX8_layPlan_23 : decode cX8_layPlan 23 = .ok (.aload_n 0, 1) := by decide +kernel
theorem dX8_layPlan_24 : decode cX8_layPlan 24 = .ok (.bipush (-6), 2) := by decide +kernel
theorem dX8_layPlan_26 : decode cX8_layPlan 26 = .ok (.putfield 159, 3) := by decide +kernel
theorem dX8_layPlan_29 : decode cX8_layPlan 29 = .ok (.iconst 0, 1) := by decide +kernel
theorem dX8_layPlan_30 : decode cX8_layPlan 30 = .ok (.istore 6, 2) := by decide +kernel
theorem dX8_layPlan_32 : decode cX8_layPlan 32 = .ok (.iload 6, 2) := by decide +kernel
theorem dX8_layPlan_34 : decode cX8_layPlan 34 = .ok (.iload 4, 2) := by decide +kernel
theorem dX8_layPlan_36 : decode cX8_layPlan 36 = .ok (.if_icmp .ge 49, 3) := by decide +kernel
theorem dX8_layPlan_39 : decode cX8_layPlan 39 = .ok (.aload_n 0, 1) := by decide +kernel
theorem dX8_layPlan_40 : decode cX8_layPlan 40 = .ok (.iload_n 3, 1) := by decide +kernel
theorem dX8_layPlan_41 : decode cX8_layPlan 41 = .ok (.iload_n 1, 1) := by decide +kernel
theorem dX8_layPlan_42 : decode cX8_layPlan 42 = .ok (.iload 6, 2) := by decide +kernel
theorem dX8_layPlan_44 : decode cX8_layPlan 44 = .ok (.invokevirtual 162, 3) := by decide +kernel
theorem dX8_layPlan_47 : decode cX8_layPlan 47 = .ok (.aload_n 0, 1) := by decide +kernel
theorem dX8_layPlan_48 : decode cX8_layPlan 48 = .ok (.getfield 159, 3) := by decide +kernel
theorem dX8_layPlan_51 : decode cX8_layPlan 51 = .ok (.ifCond .lt 15, 3) := by decide +kernel
theorem dX8_layPlan_54 : decode cX8_layPlan 54 = .ok (.aload_n 0, 1) := by decide +kernel
theorem dX8_layPlan_55 : decode cX8_layPlan 55 = .ok (.iload_n 2, 1) := by decide +kernel
theorem dX8_layPlan_56 : decode cX8_layPlan 56 = .ok (.invokevirtual 166, 3) := by decide +kernel
theorem dX8_layPlan_59 : decode cX8_layPlan 59 = .ok (.aload_n 0, 1) := by decide +kernel
theorem dX8_layPlan_60 : decode cX8_layPlan 60 = .ok (.getfield 159, 3) := by decide +kernel
theorem dX8_layPlan_63 : decode cX8_layPlan 63 = .ok (.if_icmp .ge 16, 3) := by decide +kernel
theorem dX8_layPlan_66 : decode cX8_layPlan 66 = .ok (.aload_n 0, 1) := by decide +kernel
theorem dX8_layPlan_67 : decode cX8_layPlan 67 = .ok (.aload_n 0, 1) := by decide +kernel
theorem dX8_layPlan_68 : decode cX8_layPlan 68 = .ok (.iload_n 2, 1) := by decide +kernel
theorem dX8_layPlan_69 : decode cX8_layPlan 69 = .ok (.invokevirtual 166, 3) := by decide +kernel
theorem dX8_layPlan_72 : decode cX8_layPlan 72 = .ok (.putfield 159, 3) := by decide +kernel
theorem dX8_layPlan_75 : decode cX8_layPlan 75 = .ok (.iload 6, 2) := by decide +kernel
theorem dX8_layPlan_77 : decode cX8_layPlan 77 = .ok (.istore 5, 2) := by decide +kernel
theorem dX8_layPlan_79 : decode cX8_layPlan 79 = .ok (.iinc 6 1, 3) := by decide +kernel
theorem dX8_layPlan_82 : decode cX8_layPlan 82 = .ok (.goto (-50), 3) := by decide +kernel
theorem dX8_layPlan_85 : decode cX8_layPlan 85 = .ok (.aload_n 0, 1) := by decide +kernel
theorem dX8_layPlan_86 : decode cX8_layPlan 86 = .ok (.iload_n 3, 1) := by decide +kernel
theorem dX8_layPlan_87 : decode cX8_layPlan 87 = .ok (.iload_n 1, 1) := by decide +kernel
theorem dX8_layPlan_88 : decode cX8_layPlan 88 = .ok (.iload 5, 2) := by decide +kernel
theorem dX8_layPlan_90 : decode cX8_layPlan 90 = .ok (.invokevirtual 162, 3) := by decide +kernel
theorem dX8_layPlan_93 : decode cX8_layPlan 93 = .ok (.aload_n 0, 1) := by decide +kernel
theorem dX8_layPlan_94 : decode cX8_layPlan 94 = .ok (.iconst 0, 1) := by decide +kernel
theorem dX8_layPlan_95 : decode cX8_layPlan 95 = .ok (.putfield 169, 3) := by decide +kernel
theorem dX8_layPlan_98 : decode cX8_layPlan 98 = .ok (.iconst 0, 1) := by decide +kernel
theorem dX8_layPlan_99 : decode cX8_layPlan 99 = .ok (.istore 6, 2) := by decide +kernel
theorem dX8_layPlan_101 : decode cX8_layPlan 101 = .ok (.iload 6, 2) := by decide +kernel
theorem dX8_layPlan_103 : decode cX8_layPlan 103 = .ok (.iconst 3, 1) := by decide +kernel
theorem dX8_layPlan_104 : decode cX8_layPlan 104 = .ok (.if_icmp .ge 102, 3) := by decide +kernel
theorem dX8_layPlan_107 : decode cX8_layPlan 107 = .ok (.iconst 0, 1) := by decide +kernel
theorem dX8_layPlan_108 : decode cX8_layPlan 108 = .ok (.istore 7, 2) := by decide +kernel
theorem dX8_layPlan_110 : decode cX8_layPlan 110 = .ok (.iload 7, 2) := by decide +kernel
theorem dX8_layPlan_112 : decode cX8_layPlan 112 = .ok (.bipush 7, 2) := by decide +kernel
theorem dX8_layPlan_114 : decode cX8_layPlan 114 = .ok (.if_icmp .ge 65, 3) := by decide +kernel
theorem dX8_layPlan_117 : decode cX8_layPlan 117 = .ok (.aload_n 0, 1) := by decide +kernel
theorem dX8_layPlan_118 : decode cX8_layPlan 118 = .ok (.getfield 38, 3) := by decide +kernel
theorem dX8_layPlan_121 : decode cX8_layPlan 121 = .ok (.iload 7, 2) := by decide +kernel
theorem dX8_layPlan_123 : decode cX8_layPlan 123 = .ok (.aload_n 0, 1) := by decide +kernel
theorem dX8_layPlan_124 : decode cX8_layPlan 124 = .ok (.getfield 59, 3) := by decide +kernel
theorem dX8_layPlan_127 : decode cX8_layPlan 127 = .ok (.iload 6, 2) := by decide +kernel
theorem dX8_layPlan_129 : decode cX8_layPlan 129 = .ok (.iaload, 1) := by decide +kernel
theorem dX8_layPlan_130 : decode cX8_layPlan 130 = .ok (.iload 7, 2) := by decide +kernel
theorem dX8_layPlan_132 : decode cX8_layPlan 132 = .ok (.invokestatic 103, 3) := by decide +kernel
theorem dX8_layPlan_135 : decode cX8_layPlan 135 = .ok (.ifCond .eq 30, 3) := by decide +kernel
theorem dX8_layPlan_138 : decode cX8_layPlan 138 = .ok (.aload_n 0, 1) := by decide +kernel
theorem dX8_layPlan_139 : decode cX8_layPlan 139 = .ok (.getfield 47, 3) := by decide +kernel
theorem dX8_layPlan_142 : decode cX8_layPlan 142 = .ok (.bipush 7, 2) := by decide +kernel
theorem dX8_layPlan_144 : decode cX8_layPlan 144 = .ok (.sipush 128, 3) := by decide +kernel
theorem dX8_layPlan_147 : decode cX8_layPlan 147 = .ok (.iload_n 2, 1) := by decide +kernel
theorem dX8_layPlan_148 : decode cX8_layPlan 148 = .ok (.imul, 1) := by decide +kernel
theorem dX8_layPlan_149 : decode cX8_layPlan 149 = .ok (.aload_n 0, 1) := by decide +kernel
theorem dX8_layPlan_150 : decode cX8_layPlan 150 = .ok (.getfield 59, 3) := by decide +kernel
theorem dX8_layPlan_153 : decode cX8_layPlan 153 = .ok (.iload 6, 2) := by decide +kernel
theorem dX8_layPlan_155 : decode cX8_layPlan 155 = .ok (.iaload, 1) := by decide +kernel
theorem dX8_layPlan_156 : decode cX8_layPlan 156 = .ok (.iadd, 1) := by decide +kernel
theorem dX8_layPlan_157 : decode cX8_layPlan 157 = .ok (.imul, 1) := by decide +kernel
theorem dX8_layPlan_158 : decode cX8_layPlan 158 = .ok (.iload 7, 2) := by decide +kernel
theorem dX8_layPlan_160 : decode cX8_layPlan 160 = .ok (.iadd, 1) := by decide +kernel
theorem dX8_layPlan_161 : decode cX8_layPlan 161 = .ok (.iaload, 1) := by decide +kernel
theorem dX8_layPlan_162 : decode cX8_layPlan 162 = .ok (.goto 10, 3) := by decide +kernel
theorem dX8_layPlan_165 : decode cX8_layPlan 165 = .ok (.aload_n 0, 1) := by decide +kernel
theorem dX8_layPlan_166 : decode cX8_layPlan 166 = .ok (.getfield 38, 3) := by decide +kernel
theorem dX8_layPlan_169 : decode cX8_layPlan 169 = .ok (.iload 7, 2) := by decide +kernel
theorem dX8_layPlan_171 : decode cX8_layPlan 171 = .ok (.iaload, 1) := by decide +kernel
theorem dX8_layPlan_172 : decode cX8_layPlan 172 = .ok (.iastore, 1) := by decide +kernel
theorem dX8_layPlan_173 : decode cX8_layPlan 173 = .ok (.iinc 7 1, 3) := by decide +kernel
theorem dX8_layPlan_176 : decode cX8_layPlan 176 = .ok (.goto (-66), 3) := by decide +kernel
theorem dX8_layPlan_179 : decode cX8_layPlan 179 = .ok (.aload_n 0, 1) := by decide +kernel
theorem dX8_layPlan_180 : decode cX8_layPlan 180 = .ok (.dup, 1) := by decide +kernel
theorem dX8_layPlan_181 : decode cX8_layPlan 181 = .ok (.getfield 169, 3) := by decide +kernel
theorem dX8_layPlan_184 : decode cX8_layPlan 184 = .ok (.aload_n 0, 1) := by decide +kernel
theorem dX8_layPlan_185 : decode cX8_layPlan 185 = .ok (.aload_n 0, 1) := by decide +kernel
theorem dX8_layPlan_186 : decode cX8_layPlan 186 = .ok (.getfield 59, 3) := by decide +kernel
theorem dX8_layPlan_189 : decode cX8_layPlan 189 = .ok (.iload 6, 2) := by decide +kernel
theorem dX8_layPlan_191 : decode cX8_layPlan 191 = .ok (.iaload, 1) := by decide +kernel
theorem dX8_layPlan_192 : decode cX8_layPlan 192 = .ok (.iload_n 2, 1) := by decide +kernel
theorem dX8_layPlan_193 : decode cX8_layPlan 193 = .ok (.invokevirtual 172, 3) := by decide +kernel
theorem dX8_layPlan_196 : decode cX8_layPlan 196 = .ok (.ior, 1) := by decide +kernel
theorem dX8_layPlan_197 : decode cX8_layPlan 197 = .ok (.putfield 169, 3) := by decide +kernel
theorem dX8_layPlan_200 : decode cX8_layPlan 200 = .ok (.iinc 6 1, 3) := by decide +kernel
theorem dX8_layPlan_203 : decode cX8_layPlan 203 = .ok (.goto (-102), 3) := by decide +kernel
theorem dX8_layPlan_206 : decode cX8_layPlan 206 = .ok (.return_, 1) := by decide +kernel
theorem dX8_isAsked_0 : decode cX8_isAsked 0 = .ok (.iload_n 0, 1) := by decide +kernel
theorem dX8_isAsked_1 : decode cX8_isAsked 1 = .ok (.iconst 1, 1) := by decide +kernel
theorem dX8_isAsked_2 : decode cX8_isAsked 2 = .ok (.iconst 3, 1) := by decide +kernel
theorem dX8_isAsked_3 : decode cX8_isAsked 3 = .ok (.invokestatic 83, 3) := by decide +kernel
theorem dX8_isAsked_6 : decode cX8_isAsked 6 = .ok (.ifCond .eq 16, 3) := by decide +kernel
theorem dX8_isAsked_9 : decode cX8_isAsked 9 = .ok (.iload_n 1, 1) := by decide +kernel
theorem dX8_isAsked_10 : decode cX8_isAsked 10 = .ok (.iconst 0, 1) := by decide +kernel
theorem dX8_isAsked_11 : decode cX8_isAsked 11 = .ok (.iconst 1, 1) := by decide +kernel
theorem dX8_isAsked_12 : decode cX8_isAsked 12 = .ok (.invokestatic 83, 3) := by decide +kernel
theorem dX8_isAsked_15 : decode cX8_isAsked 15 = .ok (.ifCond .eq 7, 3) := by decide +kernel
theorem dX8_isAsked_18 : decode cX8_isAsked 18 = .ok (.iconst 1, 1) := by decide +kernel
theorem dX8_isAsked_19 : decode cX8_isAsked 19 = .ok (.goto 4, 3) := by decide +kernel
theorem dX8_isAsked_22 : decode cX8_isAsked 22 = .ok (.iconst 0, 1) := by decide +kernel
theorem dX8_isAsked_23 : decode cX8_isAsked 23 = .ok (.ireturn, 1) := by decide +kernel
theorem dX8_plan_0 : decode cX8_plan 0 = .ok (.iload_n 1, 1) := by decide +kernel
theorem dX8_plan_1 : decode cX8_plan 1 = .ok (.iload_n 2, 1) := by decide +kernel
theorem dX8_plan_2 : decode cX8_plan 2 = .ok (.invokestatic 175, 3) := by decide +kernel
theorem dX8_plan_5 : decode cX8_plan 5 = .ok (.ifCond .eq 12, 3) := by decide +kernel
theorem dX8_plan_8 : decode cX8_plan 8 = .ok (.iload_n 3, 1) := by decide +kernel
theorem dX8_plan_9 : decode cX8_plan 9 = .ok (.iconst 0, 1) := by decide +kernel
theorem dX8_plan_10 : decode cX8_plan 10 = .ok (.iconst 2, 1) := by decide +kernel
theorem dX8_plan_11 : decode cX8_plan 11 = .ok (.invokestatic 83, 3) := by decide +kernel
theorem dX8_plan_14 : decode cX8_plan 14 = .ok (.ifCond .ne 6, 3) := by decide +kernel
theorem dX8_plan_17 : decode cX8_plan 17 = .ok (.bipush (-2), 2) := by decide +kernel
theorem dX8_plan_19 : decode cX8_plan 19 = .ok (.ireturn, 1) := by decide +kernel
theorem dX8_plan_20 : decode cX8_plan 20 = .ok (.aload_n 0, 1) := by decide +kernel
theorem dX8_plan_21 : decode cX8_plan 21 = .ok (.iload_n 1, 1) := by decide +kernel
theorem dX8_plan_22 : decode cX8_plan 22 = .ok (.iload_n 2, 1) := by decide +kernel
theorem dX8_plan_23 : decode cX8_plan 23 = .ok (.invokevirtual 178, 3) := by decide +kernel
theorem dX8_plan_26 : decode cX8_plan 26 = .ok (.aload_n 0, 1) := by decide +kernel
theorem dX8_plan_27 : decode cX8_plan 27 = .ok (.getfield 59, 3) := by decide +kernel
theorem dX8_plan_30 : decode cX8_plan 30 = .ok (.iconst 0, 1) := by decide +kernel
theorem dX8_plan_31 : decode cX8_plan 31 = .ok (.iaload, 1) := by decide +kernel
theorem dX8_plan_32 : decode cX8_plan 32 = .ok (.ifCond .eq 7, 3) := by decide +kernel
theorem dX8_plan_35 : decode cX8_plan 35 = .ok (.iconst 1, 1) := by decide +kernel
theorem dX8_plan_36 : decode cX8_plan 36 = .ok (.goto 4, 3) := by decide +kernel
theorem dX8_plan_39 : decode cX8_plan 39 = .ok (.iconst 0, 1) := by decide +kernel
theorem dX8_plan_40 : decode cX8_plan 40 = .ok (.aload_n 0, 1) := by decide +kernel
theorem dX8_plan_41 : decode cX8_plan 41 = .ok (.getfield 59, 3) := by decide +kernel
theorem dX8_plan_44 : decode cX8_plan 44 = .ok (.iconst 1, 1) := by decide +kernel
theorem dX8_plan_45 : decode cX8_plan 45 = .ok (.iaload, 1) := by decide +kernel
theorem dX8_plan_46 : decode cX8_plan 46 = .ok (.ifCond .eq 7, 3) := by decide +kernel
theorem dX8_plan_49 : decode cX8_plan 49 = .ok (.iconst 1, 1) := by decide +kernel
theorem dX8_plan_50 : decode cX8_plan 50 = .ok (.goto 4, 3) := by decide +kernel
theorem dX8_plan_53 : decode cX8_plan 53 = .ok (.iconst 0, 1) := by decide +kernel
theorem dX8_plan_54 : decode cX8_plan 54 = .ok (.iadd, 1) := by decide +kernel
theorem dX8_plan_55 : decode cX8_plan 55 = .ok (.aload_n 0, 1) := by decide +kernel
theorem dX8_plan_56 : decode cX8_plan 56 = .ok (.getfield 59, 3) := by decide +kernel
theorem dX8_plan_59 : decode cX8_plan 59 = .ok (.iconst 2, 1) := by decide +kernel
theorem dX8_plan_60 : decode cX8_plan 60 = .ok (.iaload, 1) := by decide +kernel
theorem dX8_plan_61 : decode cX8_plan 61 = .ok (.ifCond .eq 7, 3) := by decide +kernel
theorem dX8_plan_64 : decode cX8_plan 64 = .ok (.iconst 1, 1) := by decide +kernel
theorem dX8_plan_65 : decode cX8_plan 65 = .ok (.goto 4, 3) := by decide +kernel
theorem dX8_plan_68 : decode cX8_plan 68 = .ok (.iconst 0, 1) := by decide +kernel
theorem dX8_plan_69 : decode cX8_plan 69 = .ok (.iadd, 1) := by decide +kernel
theorem dX8_plan_70 : decode cX8_plan 70 = .ok (.istore 4, 2) := by decide +kernel
theorem dX8_plan_72 : decode cX8_plan 72 = .ok (.iload_n 3, 1) := by decide +kernel
theorem dX8_plan_73 : decode cX8_plan 73 = .ok (.ifCond .ne 10, 3) := by decide +kernel
theorem dX8_plan_76 : decode cX8_plan 76 = .ok (.aload_n 0, 1) := by decide +kernel
theorem dX8_plan_77 : decode cX8_plan 77 = .ok (.getfield 159, 3) := by decide +kernel
theorem dX8_plan_80 : decode cX8_plan 80 = .ok (.goto 17, 3) := by decide +kernel
theorem dX8_plan_83 : decode cX8_plan 83 = .ok (.iload_n 3, 1) := by decide +kernel
theorem dX8_plan_84 : decode cX8_plan 84 = .ok (.iconst 1, 1) := by decide +kernel
theorem dX8_plan_85 : decode cX8_plan 85 = .ok (.if_icmp .ne 8, 3) := by decide +kernel
theorem dX8_plan_88 : decode cX8_plan 88 = .ok (.iload 4, 2) := by decide +kernel
theorem dX8_plan_90 : decode cX8_plan 90 = .ok (.goto 7, 3) := by decide +kernel
theorem dX8_plan_93 : decode cX8_plan 93 = .ok (.aload_n 0, 1) := by decide +kernel
theorem dX8_plan_94 : decode cX8_plan 94 = .ok (.getfield 169, 3) := by decide +kernel
theorem dX8_plan_97 : decode cX8_plan 97 = .ok (.ireturn, 1) := by decide +kernel
theorem dX8_place_0 : decode cX8_place 0 = .ok (.iload_n 3, 1) := by decide +kernel
theorem dX8_place_1 : decode cX8_place 1 = .ok (.invokestatic 91, 3) := by decide +kernel
theorem dX8_place_4 : decode cX8_place 4 = .ok (.ifCond .eq 14, 3) := by decide +kernel
theorem dX8_place_7 : decode cX8_place 7 = .ok (.aload_n 0, 1) := by decide +kernel
theorem dX8_place_8 : decode cX8_place 8 = .ok (.invokevirtual 142, 3) := by decide +kernel
theorem dX8_place_11 : decode cX8_place 11 = .ok (.iload_n 3, 1) := by decide +kernel
theorem dX8_place_12 : decode cX8_place 12 = .ok (.invokestatic 103, 3) := by decide +kernel
theorem dX8_place_15 : decode cX8_place 15 = .ok (.ifCond .ne 5, 3) := by decide +kernel
theorem dX8_place_18 : decode cX8_place 18 = .ok (.iconst (-1), 1) := by decide +kernel
theorem dX8_place_19 : decode cX8_place 19 = .ok (.ireturn, 1) := by decide +kernel
theorem dX8_place_20 : decode cX8_place 20 = .ok (.iload_n 1, 1) := by decide +kernel
theorem dX8_place_21 : decode cX8_place 21 = .ok (.iload_n 2, 1) := by decide +kernel
theorem dX8_place_22 : decode cX8_place 22 = .ok (.invokestatic 175, 3) := by decide +kernel
theorem dX8_place_25 : decode cX8_place 25 = .ok (.ifCond .eq 13, 3) := by decide +kernel
theorem dX8_place_28 : decode cX8_place 28 = .ok (.iload 4, 2) := by decide +kernel
theorem dX8_place_30 : decode cX8_place 30 = .ok (.iconst 0, 1) := by decide +kernel
theorem dX8_place_31 : decode cX8_place 31 = .ok (.iconst 1, 1) := by decide +kernel
theorem dX8_place_32 : decode cX8_place 32 = .ok (.invokestatic 83, 3) := by decide +kernel
theorem dX8_place_35 : decode cX8_place 35 = .ok (.ifCond .ne 6, 3) := by decide +kernel
theorem dX8_place_38 : decode cX8_place 38 = .ok (.bipush (-2), 2) := by decide +kernel
theorem dX8_place_40 : decode cX8_place 40 = .ok (.ireturn, 1) := by decide +kernel
theorem dX8_place_41 : decode cX8_place 41 = .ok (.aload_n 0, 1) := by decide +kernel
theorem dX8_place_42 : decode cX8_place 42 = .ok (.iload_n 1, 1) := by decide +kernel
theorem dX8_place_43 : decode cX8_place 43 = .ok (.iload_n 2, 1) := by decide +kernel
theorem dX8_place_44 : decode cX8_place 44 = .ok (.invokevirtual 178, 3) := by decide +kernel
theorem dX8_place_47 : decode cX8_place 47 = .ok (.iload 4, 2) := by decide +kernel
theorem dX8_place_49 : decode cX8_place 49 = .ok (.ifCond .ne 12, 3) := by decide +kernel
theorem dX8_place_52 : decode cX8_place 52 = .ok (.aload_n 0, 1) := by decide +kernel
theorem dX8_place_53 : decode cX8_place 53 = .ok (.getfield 56, 3) := by decide +kernel
theorem dX8_place_56 : decode cX8_place 56 = .ok (.iload_n 3, 1) := by decide +kernel
theorem dX8_place_57 : decode cX8_place 57 = .ok (.iaload, 1) := by decide +kernel
theorem dX8_place_58 : decode cX8_place 58 = .ok (.goto 9, 3) := by decide +kernel
theorem dX8_place_61 : decode cX8_place 61 = .ok (.aload_n 0, 1) := by decide +kernel
theorem dX8_place_62 : decode cX8_place 62 = .ok (.getfield 38, 3) := by decide +kernel
theorem dX8_place_65 : decode cX8_place 65 = .ok (.iload_n 3, 1) := by decide +kernel
theorem dX8_place_66 : decode cX8_place 66 = .ok (.iaload, 1) := by decide +kernel
theorem dX8_place_67 : decode cX8_place 67 = .ok (.ireturn, 1) := by decide +kernel
theorem dX8_step_0 : decode cX8_step 0 = .ok (.iload_n 1, 1) := by decide +kernel
theorem dX8_step_1 : decode cX8_step 1 = .ok (.iload_n 2, 1) := by decide +kernel
theorem dX8_step_2 : decode cX8_step 2 = .ok (.invokestatic 175, 3) := by decide +kernel
theorem dX8_step_5 : decode cX8_step 5 = .ok (.ifCond .eq 13, 3) := by decide +kernel
theorem dX8_step_8 : decode cX8_step 8 = .ok (.iload 4, 2) := by decide +kernel
theorem dX8_step_10 : decode cX8_step 10 = .ok (.iconst 0, 1) := by decide +kernel
theorem dX8_step_11 : decode cX8_step 11 = .ok (.iconst 2, 1) := by decide +kernel
theorem dX8_step_12 : decode cX8_step 12 = .ok (.invokestatic 83, 3) := by decide +kernel
theorem dX8_step_15 : decode cX8_step 15 = .ok (.ifCond .ne 6, 3) := by decide +kernel
theorem dX8_step_18 : decode cX8_step 18 = .ok (.bipush (-2), 2) := by decide +kernel
theorem dX8_step_20 : decode cX8_step 20 = .ok (.ireturn, 1) := by decide +kernel
theorem dX8_step_21 : decode cX8_step 21 = .ok (.aload_n 0, 1) := by decide +kernel
theorem dX8_step_22 : decode cX8_step 22 = .ok (.iload_n 1, 1) := by decide +kernel
theorem dX8_step_23 : decode cX8_step 23 = .ok (.iload_n 2, 1) := by decide +kernel
theorem dX8_step_24 : decode cX8_step 24 = .ok (.invokevirtual 178, 3) := by decide +kernel
theorem dX8_step_27 : decode cX8_step 27 = .ok (.aload_n 0, 1) := by decide +kernel
theorem dX8_step_28 : decode cX8_step 28 = .ok (.aload_n 0, 1) := by decide +kernel
theorem dX8_step_29 : decode cX8_step 29 = .ok (.getfield 169, 3) := by decide +kernel
theorem dX8_step_32 : decode cX8_step 32 = .ok (.invokevirtual 111, 3) := by decide +kernel
theorem dX8_step_35 : decode cX8_step 35 = .ok (.istore 5, 2) := by decide +kernel
theorem dX8_step_37 : decode cX8_step 37 = .ok (.iload_n 3, 1) := by decide +kernel
theorem dX8_step_38 : decode cX8_step 38 = .ok (.iconst 0, 1) := by decide +kernel
theorem dX8_step_39 : decode cX8_step 39 = .ok (.iload 5, 2) := by decide +kernel
theorem dX8_step_41 : decode cX8_step 41 = .ok (.iconst 1, 1) := by decide +kernel
theorem dX8_step_42 : decode cX8_step 42 = .ok (.isub, 1) := by decide +kernel
theorem dX8_step_43 : decode cX8_step 43 = .ok (.invokestatic 83, 3) := by decide +kernel
theorem dX8_step_46 : decode cX8_step 46 = .ok (.ifCond .ne 6, 3) := by decide +kernel
theorem dX8_step_49 : decode cX8_step 49 = .ok (.bipush (-6), 2) := by decide +kernel
theorem dX8_step_51 : decode cX8_step 51 = .ok (.ireturn, 1) := by decide +kernel
theorem dX8_step_52 : decode cX8_step 52 = .ok (.iload 4, 2) := by decide +kernel
theorem dX8_step_54 : decode cX8_step 54 = .ok (.ifCond .ne 10, 3) := by decide +kernel
theorem dX8_step_57 : decode cX8_step 57 = .ok (.aload_n 0, 1) := by decide +kernel
theorem dX8_step_58 : decode cX8_step 58 = .ok (.getfield 35, 3) := by decide +kernel
theorem dX8_step_61 : decode cX8_step 61 = .ok (.iload_n 3, 1) := by decide +kernel
theorem dX8_step_62 : decode cX8_step 62 = .ok (.iaload, 1) := by decide +kernel
theorem dX8_step_63 : decode cX8_step 63 = .ok (.ireturn, 1) := by decide +kernel
theorem dX8_step_64 : decode cX8_step 64 = .ok (.iload_n 3, 1) := by decide +kernel
theorem dX8_step_65 : decode cX8_step 65 = .ok (.iconst 1, 1) := by decide +kernel
theorem dX8_step_66 : decode cX8_step 66 = .ok (.isub, 1) := by decide +kernel
theorem dX8_step_67 : decode cX8_step 67 = .ok (.istore 6, 2) := by decide +kernel
theorem dX8_step_69 : decode cX8_step 69 = .ok (.iload 6, 2) := by decide +kernel
theorem dX8_step_71 : decode cX8_step 71 = .ok (.ifCond .lt 35, 3) := by decide +kernel
theorem dX8_step_74 : decode cX8_step 74 = .ok (.aload_n 0, 1) := by decide +kernel
theorem dX8_step_75 : decode cX8_step 75 = .ok (.getfield 56, 3) := by decide +kernel
theorem dX8_step_78 : decode cX8_step 78 = .ok (.aload_n 0, 1) := by decide +kernel
theorem dX8_step_79 : decode cX8_step 79 = .ok (.getfield 35, 3) := by decide +kernel
theorem dX8_step_82 : decode cX8_step 82 = .ok (.iload 6, 2) := by decide +kernel
theorem dX8_step_84 : decode cX8_step 84 = .ok (.iaload, 1) := by decide +kernel
theorem dX8_step_85 : decode cX8_step 85 = .ok (.iaload, 1) := by decide +kernel
theorem dX8_step_86 : decode cX8_step 86 = .ok (.aload_n 0, 1) := by decide +kernel
theorem dX8_step_87 : decode cX8_step 87 = .ok (.getfield 56, 3) := by decide +kernel
theorem dX8_step_90 : decode cX8_step 90 = .ok (.aload_n 0, 1) := by decide +kernel
theorem dX8_step_91 : decode cX8_step 91 = .ok (.getfield 35, 3) := by decide +kernel
theorem dX8_step_94 : decode cX8_step 94 = .ok (.iload_n 3, 1) := by decide +kernel
theorem dX8_step_95 : decode cX8_step 95 = .ok (.iaload, 1) := by decide +kernel
theorem dX8_step_96 : decode cX8_step 96 = .ok (.iaload, 1) := by decide +kernel
theorem dX8_step_97 : decode cX8_step 97 = .ok (.if_icmp .eq 9, 3) := by decide +kernel
theorem dX8_step_100 : decode cX8_step 100 = .ok (.iinc 6 (-1), 3) := by decide +kernel
theorem dX8_step_103 : decode cX8_step 103 = .ok (.goto (-34), 3) := by decide +kernel
theorem dX8_step_106 : decode cX8_step 106 = .ok (.iload 6, 2) := by decide +kernel
theorem dX8_step_108 : decode cX8_step 108 = .ok (.ifCond .lt 33, 3) := by decide +kernel
theorem dX8_step_111 : decode cX8_step 111 = .ok (.aload_n 0, 1) := by decide +kernel
theorem dX8_step_112 : decode cX8_step 112 = .ok (.aload_n 0, 1) := by decide +kernel
theorem dX8_step_113 : decode cX8_step 113 = .ok (.getfield 38, 3) := by decide +kernel
theorem dX8_step_116 : decode cX8_step 116 = .ok (.aload_n 0, 1) := by decide +kernel
theorem dX8_step_117 : decode cX8_step 117 = .ok (.getfield 35, 3) := by decide +kernel
theorem dX8_step_120 : decode cX8_step 120 = .ok (.iload 6, 2) := by decide +kernel
theorem dX8_step_122 : decode cX8_step 122 = .ok (.iaload, 1) := by decide +kernel
theorem dX8_step_123 : decode cX8_step 123 = .ok (.iaload, 1) := by decide +kernel
theorem dX8_step_124 : decode cX8_step 124 = .ok (.aload_n 0, 1) := by decide +kernel
theorem dX8_step_125 : decode cX8_step 125 = .ok (.getfield 38, 3) := by decide +kernel
theorem dX8_step_128 : decode cX8_step 128 = .ok (.aload_n 0, 1) := by decide +kernel
theorem dX8_step_129 : decode cX8_step 129 = .ok (.getfield 35, 3) := by decide +kernel
theorem dX8_step_132 : decode cX8_step 132 = .ok (.iload_n 3, 1) := by decide +kernel
theorem dX8_step_133 : decode cX8_step 133 = .ok (.iaload, 1) := by decide +kernel
theorem dX8_step_134 : decode cX8_step 134 = .ok (.iaload, 1) := by decide +kernel
theorem dX8_step_135 : decode cX8_step 135 = .ok (.invokevirtual 118, 3) := by decide +kernel
theorem dX8_step_138 : decode cX8_step 138 = .ok (.ifCond .eq 7, 3) := by decide +kernel
theorem dX8_step_141 : decode cX8_step 141 = .ok (.iconst 1, 1) := by decide +kernel
theorem dX8_step_142 : decode cX8_step 142 = .ok (.goto 4, 3) := by decide +kernel
theorem dX8_step_145 : decode cX8_step 145 = .ok (.iconst 0, 1) := by decide +kernel
theorem dX8_step_146 : decode cX8_step 146 = .ok (.istore 7, 2) := by decide +kernel
theorem dX8_step_148 : decode cX8_step 148 = .ok (.iload 4, 2) := by decide +kernel
theorem dX8_step_150 : decode cX8_step 150 = .ok (.iconst 1, 1) := by decide +kernel
theorem dX8_step_151 : decode cX8_step 151 = .ok (.if_icmp .ne 16, 3) := by decide +kernel
theorem dX8_step_154 : decode cX8_step 154 = .ok (.iload 7, 2) := by decide +kernel
theorem dX8_step_156 : decode cX8_step 156 = .ok (.ifCond .eq 7, 3) := by decide +kernel
theorem dX8_step_159 : decode cX8_step 159 = .ok (.iconst 1, 1) := by decide +kernel
theorem dX8_step_160 : decode cX8_step 160 = .ok (.goto 40, 3) := by decide +kernel
theorem dX8_step_163 : decode cX8_step 163 = .ok (.iconst 0, 1) := by decide +kernel
theorem dX8_step_164 : decode cX8_step 164 = .ok (.goto 36, 3) := by decide +kernel
theorem dX8_step_167 : decode cX8_step 167 = .ok (.iload 7, 2) := by decide +kernel
theorem dX8_step_169 : decode cX8_step 169 = .ok (.ifCond .eq 7, 3) := by decide +kernel
theorem dX8_step_172 : decode cX8_step 172 = .ok (.iconst 0, 1) := by decide +kernel
theorem dX8_step_173 : decode cX8_step 173 = .ok (.goto 27, 3) := by decide +kernel
theorem dX8_step_176 : decode cX8_step 176 = .ok (.aload_n 0, 1) := by decide +kernel
theorem dX8_step_177 : decode cX8_step 177 = .ok (.getfield 38, 3) := by decide +kernel
theorem dX8_step_180 : decode cX8_step 180 = .ok (.aload_n 0, 1) := by decide +kernel
theorem dX8_step_181 : decode cX8_step 181 = .ok (.getfield 35, 3) := by decide +kernel
theorem dX8_step_184 : decode cX8_step 184 = .ok (.iload_n 3, 1) := by decide +kernel
theorem dX8_step_185 : decode cX8_step 185 = .ok (.iaload, 1) := by decide +kernel
theorem dX8_step_186 : decode cX8_step 186 = .ok (.iaload, 1) := by decide +kernel
theorem dX8_step_187 : decode cX8_step 187 = .ok (.aload_n 0, 1) := by decide +kernel
theorem dX8_step_188 : decode cX8_step 188 = .ok (.getfield 38, 3) := by decide +kernel
theorem dX8_step_191 : decode cX8_step 191 = .ok (.aload_n 0, 1) := by decide +kernel
theorem dX8_step_192 : decode cX8_step 192 = .ok (.getfield 35, 3) := by decide +kernel
theorem dX8_step_195 : decode cX8_step 195 = .ok (.iload 6, 2) := by decide +kernel
theorem dX8_step_197 : decode cX8_step 197 = .ok (.iaload, 1) := by decide +kernel
theorem dX8_step_198 : decode cX8_step 198 = .ok (.iaload, 1) := by decide +kernel
theorem dX8_step_199 : decode cX8_step 199 = .ok (.isub, 1) := by decide +kernel
theorem dX8_step_200 : decode cX8_step 200 = .ok (.ireturn, 1) := by decide +kernel
theorem dX8_run_0 : decode cX8_run 0 = .ok (.iload_n 1, 1) := by decide +kernel
theorem dX8_run_1 : decode cX8_run 1 = .ok (.iload_n 2, 1) := by decide +kernel
theorem dX8_run_2 : decode cX8_run 2 = .ok (.invokestatic 175, 3) := by decide +kernel
theorem dX8_run_5 : decode cX8_run 5 = .ok (.ifCond .ne 6, 3) := by decide +kernel
theorem dX8_run_8 : decode cX8_run 8 = .ok (.bipush (-2), 2) := by decide +kernel
theorem dX8_run_10 : decode cX8_run 10 = .ok (.ireturn, 1) := by decide +kernel
theorem dX8_run_11 : decode cX8_run 11 = .ok (.aload_n 0, 1) := by decide +kernel
theorem dX8_run_12 : decode cX8_run 12 = .ok (.iload_n 1, 1) := by decide +kernel
theorem dX8_run_13 : decode cX8_run 13 = .ok (.iload_n 2, 1) := by decide +kernel
theorem dX8_run_14 : decode cX8_run 14 = .ok (.invokevirtual 178, 3) := by decide +kernel
theorem dX8_run_17 : decode cX8_run 17 = .ok (.iconst 0, 1) := by decide +kernel
theorem dX8_run_18 : decode cX8_run 18 = .ok (.istore_n 3, 1) := by decide +kernel
theorem dX8_run_19 : decode cX8_run 19 = .ok (.iload_n 3, 1) := by decide +kernel
theorem dX8_run_20 : decode cX8_run 20 = .ok (.aload_n 0, 1) := by decide +kernel
theorem dX8_run_21 : decode cX8_run 21 = .ok (.getfield 87, 3) := by decide +kernel
theorem dX8_run_24 : decode cX8_run 24 = .ok (.if_icmp .ge 128, 3) := by decide +kernel
theorem dX8_run_27 : decode cX8_run 27 = .ok (.aload_n 0, 1) := by decide +kernel
theorem dX8_run_28 : decode cX8_run 28 = .ok (.getfield 22, 3) := by decide +kernel
theorem dX8_run_31 : decode cX8_run 31 = .ok (.aload_n 0, 1) := by decide +kernel
theorem dX8_run_32 : decode cX8_run 32 = .ok (.getfield 16, 3) := by decide +kernel
theorem dX8_run_35 : decode cX8_run 35 = .ok (.iload_n 3, 1) := by decide +kernel
theorem dX8_run_36 : decode cX8_run 36 = .ok (.iaload, 1) := by decide +kernel
theorem dX8_run_37 : decode cX8_run 37 = .ok (.iaload, 1) := by decide +kernel
theorem dX8_run_38 : decode cX8_run 38 = .ok (.istore 4, 2) := by decide +kernel
theorem dX8_run_40 : decode cX8_run 40 = .ok (.aload_n 0, 1) := by decide +kernel
theorem dX8_run_41 : decode cX8_run 41 = .ok (.getfield 22, 3) := by decide +kernel
theorem dX8_run_44 : decode cX8_run 44 = .ok (.aload_n 0, 1) := by decide +kernel
theorem dX8_run_45 : decode cX8_run 45 = .ok (.getfield 19, 3) := by decide +kernel
theorem dX8_run_48 : decode cX8_run 48 = .ok (.iload_n 3, 1) := by decide +kernel
theorem dX8_run_49 : decode cX8_run 49 = .ok (.iaload, 1) := by decide +kernel
theorem dX8_run_50 : decode cX8_run 50 = .ok (.iaload, 1) := by decide +kernel
theorem dX8_run_51 : decode cX8_run 51 = .ok (.istore 5, 2) := by decide +kernel
theorem dX8_run_53 : decode cX8_run 53 = .ok (.aload_n 0, 1) := by decide +kernel
theorem dX8_run_54 : decode cX8_run 54 = .ok (.getfield 22, 3) := by decide +kernel
theorem dX8_run_57 : decode cX8_run 57 = .ok (.aload_n 0, 1) := by decide +kernel
theorem dX8_run_58 : decode cX8_run 58 = .ok (.getfield 13, 3) := by decide +kernel
theorem dX8_run_61 : decode cX8_run 61 = .ok (.iload_n 3, 1) := by decide +kernel
theorem dX8_run_62 : decode cX8_run 62 = .ok (.iaload, 1) := by decide +kernel
theorem dX8_run_63 : decode cX8_run 63 = .ok (.aload_n 0, 1) := by decide +kernel
theorem dX8_run_64 : decode cX8_run 64 = .ok (.getfield 7, 3) := by decide +kernel
theorem dX8_run_67 : decode cX8_run 67 = .ok (.iload_n 3, 1) := by decide +kernel
theorem dX8_run_68 : decode cX8_run 68 = .ok (.iaload, 1) := by decide +kernel
theorem dX8_run_69 : decode cX8_run 69 = .ok (.ifCond .ne 8, 3) := by decide +kernel
theorem dX8_run_72 : decode cX8_run 72 = .ok (.iload 4, 2) := by decide +kernel
theorem dX8_run_74 : decode cX8_run 74 = .ok (.goto 71, 3) := by decide +kernel
theorem dX8_run_77 : decode cX8_run 77 = .ok (.aload_n 0, 1) := by decide +kernel
theorem dX8_run_78 : decode cX8_run 78 = .ok (.getfield 7, 3) := by decide +kernel
theorem dX8_run_81 : decode cX8_run 81 = .ok (.iload_n 3, 1) := by decide +kernel
theorem dX8_run_82 : decode cX8_run 82 = .ok (.iaload, 1) := by decide +kernel
theorem dX8_run_83 : decode cX8_run 83 = .ok (.iconst 1, 1) := by decide +kernel
theorem dX8_run_84 : decode cX8_run 84 = .ok (.if_icmp .ne 11, 3) := by decide +kernel
theorem dX8_run_87 : decode cX8_run 87 = .ok (.iload 4, 2) := by decide +kernel
theorem dX8_run_89 : decode cX8_run 89 = .ok (.iload 5, 2) := by decide +kernel
theorem dX8_run_91 : decode cX8_run 91 = .ok (.iadd, 1) := by decide +kernel
theorem dX8_run_92 : decode cX8_run 92 = .ok (.goto 53, 3) := by decide +kernel
theorem dX8_run_95 : decode cX8_run 95 = .ok (.aload_n 0, 1) := by decide +kernel
theorem dX8_run_96 : decode cX8_run 96 = .ok (.getfield 7, 3) := by decide +kernel
theorem dX8_run_99 : decode cX8_run 99 = .ok (.iload_n 3, 1) := by decide +kernel
theorem dX8_run_100 : decode cX8_run 100 = .ok (.iaload, 1) := by decide +kernel
theorem dX8_run_101 : decode cX8_run 101 = .ok (.iconst 2, 1) := by decide +kernel
theorem dX8_run_102 : decode cX8_run 102 = .ok (.if_icmp .ne 11, 3) := by decide +kernel
theorem dX8_run_105 : decode cX8_run 105 = .ok (.iload 4, 2) := by decide +kernel
theorem dX8_run_107 : decode cX8_run 107 = .ok (.iload 5, 2) := by decide +kernel
theorem dX8_run_109 : decode cX8_run 109 = .ok (.isub, 1) := by decide +kernel
theorem dX8_run_110 : decode cX8_run 110 = .ok (.goto 35, 3) := by decide +kernel
theorem dX8_run_113 : decode cX8_run 113 = .ok (.aload_n 0, 1) := by decide +kernel
theorem dX8_run_114 : decode cX8_run 114 = .ok (.getfield 7, 3) := by decide +kernel
theorem dX8_run_117 : decode cX8_run 117 = .ok (.iload_n 3, 1) := by decide +kernel
theorem dX8_run_118 : decode cX8_run 118 = .ok (.iaload, 1) := by decide +kernel
theorem dX8_run_119 : decode cX8_run 119 = .ok (.iconst 3, 1) := by decide +kernel
theorem dX8_run_120 : decode cX8_run 120 = .ok (.if_icmp .ne 11, 3) := by decide +kernel
theorem dX8_run_123 : decode cX8_run 123 = .ok (.iload 4, 2) := by decide +kernel
theorem dX8_run_125 : decode cX8_run 125 = .ok (.iload 5, 2) := by decide +kernel
theorem dX8_run_127 : decode cX8_run 127 = .ok (.imul, 1) := by decide +kernel
theorem dX8_run_128 : decode cX8_run 128 = .ok (.goto 17, 3) := by decide +kernel
theorem dX8_run_131 : decode cX8_run 131 = .ok (.iload 4, 2) := by decide +kernel
theorem dX8_run_133 : decode cX8_run 133 = .ok (.iload 5, 2) := by decide +kernel
theorem dX8_run_135 : decode cX8_run 135 = .ok (.if_icmp .ge 8, 3) := by decide +kernel
theorem dX8_run_138 : decode cX8_run 138 = .ok (.iload 4, 2) := by decide +kernel
theorem dX8_run_140 : decode cX8_run 140 = .ok (.goto 5, 3) := by decide +kernel
theorem dX8_run_143 : decode cX8_run 143 = .ok (.iload 5, 2) := by decide +kernel
theorem dX8_run_145 : decode cX8_run 145 = .ok (.iastore, 1) := by decide +kernel
theorem dX8_run_146 : decode cX8_run 146 = .ok (.iinc 3 1, 3) := by decide +kernel
theorem dX8_run_149 : decode cX8_run 149 = .ok (.goto (-130), 3) := by decide +kernel
theorem dX8_run_152 : decode cX8_run 152 = .ok (.aload_n 0, 1) := by decide +kernel
theorem dX8_run_153 : decode cX8_run 153 = .ok (.getfield 159, 3) := by decide +kernel
theorem dX8_run_156 : decode cX8_run 156 = .ok (.ireturn, 1) := by decide +kernel
theorem dX8_layWeights_0 : decode cX8_layWeights 0 = .ok (.iconst 0, 1) := by decide +kernel
theorem dX8_layWeights_1 : decode cX8_layWeights 1 = .ok (.istore_n 1, 1) := by decide +kernel
theorem dX8_layWeights_2 : decode cX8_layWeights 2 = .ok (.iload_n 1, 1) := by decide +kernel
theorem dX8_layWeights_3 : decode cX8_layWeights 3 = .ok (.bipush 49, 2) := by decide +kernel
theorem dX8_layWeights_5 : decode cX8_layWeights 5 = .ok (.if_icmp .ge 16, 3) := by decide +kernel
theorem dX8_layWeights_8 : decode cX8_layWeights 8 = .ok (.aload_n 0, 1) := by decide +kernel
theorem dX8_layWeights_9 : decode cX8_layWeights 9 = .ok (.getfield 62, 3) := by decide +kernel
theorem dX8_layWeights_12 : decode cX8_layWeights 12 = .ok (.iload_n 1, 1) := by decide +kernel
theorem dX8_layWeights_13 : decode cX8_layWeights 13 = .ok (.iconst 0, 1) := by decide +kernel
theorem dX8_layWeights_14 : decode cX8_layWeights 14 = .ok (.iastore, 1) := by decide +kernel
theorem dX8_layWeights_15 : decode cX8_layWeights 15 = .ok (.iinc 1 1, 3) := by decide +kernel
theorem dX8_layWeights_18 : decode cX8_layWeights 18 = .ok (.goto (-16), 3) := by decide +kernel
theorem dX8_layWeights_21 : decode cX8_layWeights 21 = .ok (.aload_n 0, 1) := by decide +kernel
theorem dX8_layWeights_22 : decode cX8_layWeights 22 = .ok (.iconst 0, 1) := by decide +kernel
theorem dX8_layWeights_23 : decode cX8_layWeights 23 = .ok (.invokevirtual 111, 3) := by decide +kernel
theorem dX8_layWeights_26 : decode cX8_layWeights 26 = .ok (.istore_n 1, 1) := by decide +kernel
theorem dX8_layWeights_27 : decode cX8_layWeights 27 = .ok (.iconst 1, 1) := by decide +kernel
theorem dX8_layWeights_28 : decode cX8_layWeights 28 = .ok (.istore_n 2, 1) := by decide +kernel
theorem dX8_layWeights_29 : decode cX8_layWeights 29 = .ok (.iload_n 2, 1) := by decide +kernel
theorem dX8_layWeights_30 : decode cX8_layWeights 30 = .ok (.iload_n 1, 1) := by decide +kernel
theorem dX8_layWeights_31 : decode cX8_layWeights 31 = .ok (.if_icmp .ge 80, 3) := by decide +kernel
theorem dX8_layWeights_34 : decode cX8_layWeights 34 = .ok (.aload_n 0, 1) := by decide +kernel
theorem dX8_layWeights_35 : decode cX8_layWeights 35 = .ok (.getfield 35, 3) := by decide +kernel
theorem dX8_layWeights_38 : decode cX8_layWeights 38 = .ok (.iload_n 2, 1) := by decide +kernel
theorem dX8_layWeights_39 : decode cX8_layWeights 39 = .ok (.iaload, 1) := by decide +kernel
theorem dX8_layWeights_40 : decode cX8_layWeights 40 = .ok (.aload_n 0, 1) := by decide +kernel
theorem dX8_layWeights_41 : decode cX8_layWeights 41 = .ok (.getfield 35, 3) := by decide +kernel
theorem dX8_layWeights_44 : decode cX8_layWeights 44 = .ok (.iload_n 2, 1) := by decide +kernel
theorem dX8_layWeights_45 : decode cX8_layWeights 45 = .ok (.iconst 1, 1) := by decide +kernel
theorem dX8_layWeights_46 : decode cX8_layWeights 46 = .ok (.isub, 1) := by decide +kernel
theorem dX8_layWeights_47 : decode cX8_layWeights 47 = .ok (.iaload, 1) := by decide +kernel
theorem dX8_layWeights_48 : decode cX8_layWeights 48 = .ok (.if_icmp .eq 57, 3) := by decide +kernel
theorem dX8_layWeights_51 : decode cX8_layWeights 51 = .ok (.aload_n 0, 1) := by decide +kernel
theorem dX8_layWeights_52 : decode cX8_layWeights 52 = .ok (.getfield 62, 3) := by decide +kernel
theorem dX8_layWeights_55 : decode cX8_layWeights 55 = .ok (.bipush 7, 2) := by decide +kernel
theorem dX8_layWeights_57 : decode cX8_layWeights 57 = .ok (.aload_n 0, 1) := by decide +kernel
theorem dX8_layWeights_58 : decode cX8_layWeights 58 = .ok (.getfield 35, 3) := by decide +kernel
theorem dX8_layWeights_61 : decode cX8_layWeights 61 = .ok (.iload_n 2, 1) := by decide +kernel
theorem dX8_layWeights_62 : decode cX8_layWeights 62 = .ok (.iaload, 1) := by decide +kernel
theorem dX8_layWeights_63 : decode cX8_layWeights 63 = .ok (.imul, 1) := by decide +kernel
theorem dX8_layWeights_64 : decode cX8_layWeights 64 = .ok (.aload_n 0, 1) := by decide +kernel
theorem dX8_layWeights_65 : decode cX8_layWeights 65 = .ok (.getfield 35, 3) := by decide +kernel
theorem dX8_layWeights_68 : decode cX8_layWeights 68 = .ok (.iload_n 2, 1) := by decide +kernel
theorem dX8_layWeights_69 : decode cX8_layWeights 69 = .ok (.iconst 1, 1) := by decide +kernel
theorem dX8_layWeights_70 : decode cX8_layWeights 70 = .ok (.isub, 1) := by decide +kernel
theorem dX8_layWeights_71 : decode cX8_layWeights 71 = .ok (.iaload, 1) := by decide +kernel
theorem dX8_layWeights_72 : decode cX8_layWeights 72 = .ok (.iadd, 1) := by decide +kernel
theorem dX8_layWeights_73 : decode cX8_layWeights 73 = .ok (.dup2, 1) := by decide +kernel
theorem dX8_layWeights_74 : decode cX8_layWeights 74 = .ok (.iaload, 1) := by decide +kernel
theorem dX8_layWeights_75 : decode cX8_layWeights 75 = .ok (.iconst 1, 1) := by decide +kernel
theorem dX8_layWeights_76 : decode cX8_layWeights 76 = .ok (.iadd, 1) := by decide +kernel
theorem dX8_layWeights_77 : decode cX8_layWeights 77 = .ok (.iastore, 1) := by decide +kernel
theorem dX8_layWeights_78 : decode cX8_layWeights 78 = .ok (.aload_n 0, 1) := by decide +kernel
theorem dX8_layWeights_79 : decode cX8_layWeights 79 = .ok (.getfield 62, 3) := by decide +kernel
theorem dX8_layWeights_82 : decode cX8_layWeights 82 = .ok (.bipush 7, 2) := by decide +kernel
theorem dX8_layWeights_84 : decode cX8_layWeights 84 = .ok (.aload_n 0, 1) := by decide +kernel
theorem dX8_layWeights_85 : decode cX8_layWeights 85 = .ok (.getfield 35, 3) := by decide +kernel
theorem dX8_layWeights_88 : decode cX8_layWeights 88 = .ok (.iload_n 2, 1) := by decide +kernel
theorem dX8_layWeights_89 : decode cX8_layWeights 89 = .ok (.iconst 1, 1) := by decide +kernel
theorem dX8_layWeights_90 : decode cX8_layWeights 90 = .ok (.isub, 1) := by decide +kernel
theorem dX8_layWeights_91 : decode cX8_layWeights 91 = .ok (.iaload, 1) := by decide +kernel
theorem dX8_layWeights_92 : decode cX8_layWeights 92 = .ok (.imul, 1) := by decide +kernel
theorem dX8_layWeights_93 : decode cX8_layWeights 93 = .ok (.aload_n 0, 1) := by decide +kernel
theorem dX8_layWeights_94 : decode cX8_layWeights 94 = .ok (.getfield 35, 3) := by decide +kernel
theorem dX8_layWeights_97 : decode cX8_layWeights 97 = .ok (.iload_n 2, 1) := by decide +kernel
theorem dX8_layWeights_98 : decode cX8_layWeights 98 = .ok (.iaload, 1) := by decide +kernel
theorem dX8_layWeights_99 : decode cX8_layWeights 99 = .ok (.iadd, 1) := by decide +kernel
theorem dX8_layWeights_100 : decode cX8_layWeights 100 = .ok (.dup2, 1) := by decide +kernel
theorem dX8_layWeights_101 : decode cX8_layWeights 101 = .ok (.iaload, 1) := by decide +kernel
theorem dX8_layWeights_102 : decode cX8_layWeights 102 = .ok (.iconst 1, 1) := by decide +kernel
theorem dX8_layWeights_103 : decode cX8_layWeights 103 = .ok (.iadd, 1) := by decide +kernel
theorem dX8_layWeights_104 : decode cX8_layWeights 104 = .ok (.iastore, 1) := by decide +kernel
theorem dX8_layWeights_105 : decode cX8_layWeights 105 = .ok (.iinc 2 1, 3) := by decide +kernel
theorem dX8_layWeights_108 : decode cX8_layWeights 108 = .ok (.goto (-79), 3) := by decide +kernel
theorem dX8_layWeights_111 : decode cX8_layWeights 111 = .ok (.return_, 1) := by decide +kernel
theorem dX8_weight_0 : decode cX8_weight 0 = .ok (.iload_n 1, 1) := by decide +kernel
theorem dX8_weight_1 : decode cX8_weight 1 = .ok (.invokestatic 91, 3) := by decide +kernel
theorem dX8_weight_4 : decode cX8_weight 4 = .ok (.ifCond .eq 10, 3) := by decide +kernel
theorem dX8_weight_7 : decode cX8_weight 7 = .ok (.iload_n 2, 1) := by decide +kernel
theorem dX8_weight_8 : decode cX8_weight 8 = .ok (.invokestatic 91, 3) := by decide +kernel
theorem dX8_weight_11 : decode cX8_weight 11 = .ok (.ifCond .ne 5, 3) := by decide +kernel
theorem dX8_weight_14 : decode cX8_weight 14 = .ok (.iconst (-1), 1) := by decide +kernel
theorem dX8_weight_15 : decode cX8_weight 15 = .ok (.ireturn, 1) := by decide +kernel
theorem dX8_weight_16 : decode cX8_weight 16 = .ok (.aload_n 0, 1) := by decide +kernel
theorem dX8_weight_17 : decode cX8_weight 17 = .ok (.invokevirtual 181, 3) := by decide +kernel
theorem dX8_weight_20 : decode cX8_weight 20 = .ok (.aload_n 0, 1) := by decide +kernel
theorem dX8_weight_21 : decode cX8_weight 21 = .ok (.getfield 62, 3) := by decide +kernel
theorem dX8_weight_24 : decode cX8_weight 24 = .ok (.bipush 7, 2) := by decide +kernel
theorem dX8_weight_26 : decode cX8_weight 26 = .ok (.iload_n 1, 1) := by decide +kernel
theorem dX8_weight_27 : decode cX8_weight 27 = .ok (.imul, 1) := by decide +kernel
theorem dX8_weight_28 : decode cX8_weight 28 = .ok (.iload_n 2, 1) := by decide +kernel
theorem dX8_weight_29 : decode cX8_weight 29 = .ok (.iadd, 1) := by decide +kernel
theorem dX8_weight_30 : decode cX8_weight 30 = .ok (.iaload, 1) := by decide +kernel
theorem dX8_weight_31 : decode cX8_weight 31 = .ok (.ireturn, 1) := by decide +kernel
theorem dX8_heaviest_0 : decode cX8_heaviest 0 = .ok (.bipush (-6), 2) := by decide +kernel
theorem dX8_heaviest_2 : decode cX8_heaviest 2 = .ok (.istore_n 1, 1) := by decide +kernel
theorem dX8_heaviest_3 : decode cX8_heaviest 3 = .ok (.iconst 0, 1) := by decide +kernel
theorem dX8_heaviest_4 : decode cX8_heaviest 4 = .ok (.istore_n 2, 1) := by decide +kernel
theorem dX8_heaviest_5 : decode cX8_heaviest 5 = .ok (.iload_n 2, 1) := by decide +kernel
theorem dX8_heaviest_6 : decode cX8_heaviest 6 = .ok (.bipush 49, 2) := by decide +kernel
theorem dX8_heaviest_8 : decode cX8_heaviest 8 = .ok (.if_icmp .ge 73, 3) := by decide +kernel
theorem dX8_heaviest_11 : decode cX8_heaviest 11 = .ok (.iload_n 2, 1) := by decide +kernel
