theorem dX10_keeps_0 : decode cX10_keeps 0 = .ok (.aload_n 0, 1) := by decide +kernel
theorem dX10_keeps_1 : decode cX10_keeps 1 = .ok (.getfield 80, 3) := by decide +kernel
theorem dX10_keeps_4 : decode cX10_keeps 4 = .ok (.bipush 12, 2) := by decide +kernel
theorem dX10_keeps_6 : decode cX10_keeps 6 = .ok (.if_icmp .ne 41, 3) := by decide +kernel
theorem dX10_keeps_9 : decode cX10_keeps 9 = .ok (.iconst 0, 1) := by decide +kernel
theorem dX10_keeps_10 : decode cX10_keeps 10 = .ok (.istore_n 2, 1) := by decide +kernel
theorem dX10_keeps_11 : decode cX10_keeps 11 = .ok (.iload_n 2, 1) := by decide +kernel
theorem dX10_keeps_12 : decode cX10_keeps 12 = .ok (.bipush 55, 2) := by decide +kernel
theorem dX10_keeps_14 : decode cX10_keeps 14 = .ok (.if_icmp .ge 23, 3) := by decide +kernel
theorem dX10_keeps_17 : decode cX10_keeps 17 = .ok (.aload_n 0, 1) := by decide +kernel
theorem dX10_keeps_18 : decode cX10_keeps 18 = .ok (.getfield 16, 3) := by decide +kernel
theorem dX10_keeps_21 : decode cX10_keeps 21 = .ok (.iload_n 2, 1) := by decide +kernel
theorem dX10_keeps_22 : decode cX10_keeps 22 = .ok (.aload_n 0, 1) := by decide +kernel
theorem dX10_keeps_23 : decode cX10_keeps 23 = .ok (.getfield 16, 3) := by decide +kernel
theorem dX10_keeps_26 : decode cX10_keeps 26 = .ok (.iload_n 2, 1) := by decide +kernel
theorem dX10_keeps_27 : decode cX10_keeps 27 = .ok (.iconst 5, 1) := by decide +kernel
theorem dX10_keeps_28 : decode cX10_keeps 28 = .ok (.iadd, 1) := by decide +kernel
theorem dX10_keeps_29 : decode cX10_keeps 29 = .ok (.iaload, 1) := by decide +kernel
theorem dX10_keeps_30 : decode cX10_keeps 30 = .ok (.iastore, 1) := by decide +kernel
theorem dX10_keeps_31 : decode cX10_keeps 31 = .ok (.iinc 2 1, 3) := by decide +kernel
theorem dX10_keeps_34 : decode cX10_keeps 34 = .ok (.goto (-23), 3) := by decide +kernel
theorem dX10_keeps_37 : decode cX10_keeps 37 = .ok (.aload_n 0, 1) := by decide +kernel
theorem dX10_keeps_38 : decode cX10_keeps 38 = .ok (.dup, 1) := by decide +kernel
theorem dX10_keeps_39 : decode cX10_keeps 39 = .ok (.getfield 80, 3) := by decide +kernel
theorem dX10_keeps_42 : decode cX10_keeps 42 = .ok (.iconst 1, 1) := by decide +kernel
theorem dX10_keeps_43 : decode cX10_keeps 43 = .ok (.isub, 1) := by decide +kernel
theorem dX10_keeps_44 : decode cX10_keeps 44 = .ok (.putfield 80, 3) := by decide +kernel
theorem dX10_keeps_47 : decode cX10_keeps 47 = .ok (.iconst 5, 1) := by decide +kernel
theorem dX10_keeps_48 : decode cX10_keeps 48 = .ok (.aload_n 0, 1) := by decide +kernel
theorem dX10_keeps_49 : decode cX10_keeps 49 = .ok (.getfield 80, 3) := by decide +kernel
theorem dX10_keeps_52 : decode cX10_keeps 52 = .ok (.imul, 1) := by decide +kernel
theorem dX10_keeps_53 : decode cX10_keeps 53 = .ok (.istore_n 2, 1) := by decide +kernel
theorem dX10_keeps_54 : decode cX10_keeps 54 = .ok (.aload_n 0, 1) := by decide +kernel
theorem dX10_keeps_55 : decode cX10_keeps 55 = .ok (.getfield 16, 3) := by decide +kernel
theorem dX10_keeps_58 : decode cX10_keeps 58 = .ok (.iload_n 2, 1) := by decide +kernel
theorem dX10_keeps_59 : decode cX10_keeps 59 = .ok (.iload_n 1, 1) := by decide +kernel
theorem dX10_keeps_60 : decode cX10_keeps 60 = .ok (.iastore, 1) := by decide +kernel
theorem dX10_keeps_61 : decode cX10_keeps 61 = .ok (.aload_n 0, 1) := by decide +kernel
theorem dX10_keeps_62 : decode cX10_keeps 62 = .ok (.getfield 16, 3) := by decide +kernel
theorem dX10_keeps_65 : decode cX10_keeps 65 = .ok (.iload_n 2, 1) := by decide +kernel
theorem dX10_keeps_66 : decode cX10_keeps 66 = .ok (.iconst 1, 1) := by decide +kernel
theorem dX10_keeps_67 : decode cX10_keeps 67 = .ok (.iadd, 1) := by decide +kernel
theorem dX10_keeps_68 : decode cX10_keeps 68 = .ok (.aload_n 0, 1) := by decide +kernel
theorem dX10_keeps_69 : decode cX10_keeps 69 = .ok (.iload_n 1, 1) := by decide +kernel
theorem dX10_keeps_70 : decode cX10_keeps 70 = .ok (.iconst 4, 1) := by decide +kernel
theorem dX10_keeps_71 : decode cX10_keeps 71 = .ok (.invokevirtual 94, 3) := by decide +kernel
theorem dX10_keeps_74 : decode cX10_keeps 74 = .ok (.iastore, 1) := by decide +kernel
theorem dX10_keeps_75 : decode cX10_keeps 75 = .ok (.aload_n 0, 1) := by decide +kernel
theorem dX10_keeps_76 : decode cX10_keeps 76 = .ok (.getfield 16, 3) := by decide +kernel
theorem dX10_keeps_79 : decode cX10_keeps 79 = .ok (.iload_n 2, 1) := by decide +kernel
theorem dX10_keeps_80 : decode cX10_keeps 80 = .ok (.iconst 2, 1) := by decide +kernel
theorem dX10_keeps_81 : decode cX10_keeps 81 = .ok (.iadd, 1) := by decide +kernel
theorem dX10_keeps_82 : decode cX10_keeps 82 = .ok (.aload_n 0, 1) := by decide +kernel
theorem dX10_keeps_83 : decode cX10_keeps 83 = .ok (.iload_n 1, 1) := by decide +kernel
theorem dX10_keeps_84 : decode cX10_keeps 84 = .ok (.iconst 5, 1) := by decide +kernel
theorem dX10_keeps_85 : decode cX10_keeps 85 = .ok (.invokevirtual 94, 3) := by decide +kernel
theorem dX10_keeps_88 : decode cX10_keeps 88 = .ok (.iastore, 1) := by decide +kernel
theorem dX10_keeps_89 : decode cX10_keeps 89 = .ok (.aload_n 0, 1) := by decide +kernel
theorem dX10_keeps_90 : decode cX10_keeps 90 = .ok (.getfield 16, 3) := by decide +kernel
theorem dX10_keeps_93 : decode cX10_keeps 93 = .ok (.iload_n 2, 1) := by decide +kernel
theorem dX10_keeps_94 : decode cX10_keeps 94 = .ok (.iconst 3, 1) := by decide +kernel
theorem dX10_keeps_95 : decode cX10_keeps 95 = .ok (.iadd, 1) := by decide +kernel
theorem dX10_keeps_96 : decode cX10_keeps 96 = .ok (.aload_n 0, 1) := by decide +kernel
theorem dX10_keeps_97 : decode cX10_keeps 97 = .ok (.iload_n 1, 1) := by decide +kernel
theorem dX10_keeps_98 : decode cX10_keeps 98 = .ok (.bipush 6, 2) := by decide +kernel
theorem dX10_keeps_100 : decode cX10_keeps 100 = .ok (.invokevirtual 94, 3) := by decide +kernel
theorem dX10_keeps_103 : decode cX10_keeps 103 = .ok (.iastore, 1) := by decide +kernel
theorem dX10_keeps_104 : decode cX10_keeps 104 = .ok (.aload_n 0, 1) := by decide +kernel
theorem dX10_keeps_105 : decode cX10_keeps 105 = .ok (.getfield 16, 3) := by decide +kernel
theorem dX10_keeps_108 : decode cX10_keeps 108 = .ok (.iload_n 2, 1) := by decide +kernel
theorem dX10_keeps_109 : decode cX10_keeps 109 = .ok (.iconst 4, 1) := by decide +kernel
theorem dX10_keeps_110 : decode cX10_keeps 110 = .ok (.iadd, 1) := by decide +kernel
theorem dX10_keeps_111 : decode cX10_keeps 111 = .ok (.aload_n 0, 1) := by decide +kernel
theorem dX10_keeps_112 : decode cX10_keeps 112 = .ok (.getfield 7, 3) := by decide +kernel
theorem dX10_keeps_115 : decode cX10_keeps 115 = .ok (.iconst 4, 1) := by decide +kernel
theorem dX10_keeps_116 : decode cX10_keeps 116 = .ok (.iaload, 1) := by decide +kernel
theorem dX10_keeps_117 : decode cX10_keeps 117 = .ok (.iastore, 1) := by decide +kernel
theorem dX10_keeps_118 : decode cX10_keeps 118 = .ok (.aload_n 0, 1) := by decide +kernel
theorem dX10_keeps_119 : decode cX10_keeps 119 = .ok (.dup, 1) := by decide +kernel
theorem dX10_keeps_120 : decode cX10_keeps 120 = .ok (.getfield 80, 3) := by decide +kernel
theorem dX10_keeps_123 : decode cX10_keeps 123 = .ok (.iconst 1, 1) := by decide +kernel
theorem dX10_keeps_124 : decode cX10_keeps 124 = .ok (.iadd, 1) := by decide +kernel
theorem dX10_keeps_125 : decode cX10_keeps 125 = .ok (.putfield 80, 3) := by decide +kernel
theorem dX10_keeps_128 : decode cX10_keeps 128 = .ok (.return_, 1) := by decide +kernel
theorem dX10_carries_0 : decode cX10_carries 0 = .ok (.aload_n 0, 1) := by decide +kernel
theorem dX10_carries_1 : decode cX10_carries 1 = .ok (.iload_n 1, 1) := by decide +kernel
theorem dX10_carries_2 : decode cX10_carries 2 = .ok (.invokevirtual 128, 3) := by decide +kernel
theorem dX10_carries_5 : decode cX10_carries 5 = .ok (.aload_n 0, 1) := by decide +kernel
theorem dX10_carries_6 : decode cX10_carries 6 = .ok (.iload_n 1, 1) := by decide +kernel
theorem dX10_carries_7 : decode cX10_carries 7 = .ok (.iconst 4, 1) := by decide +kernel
theorem dX10_carries_8 : decode cX10_carries 8 = .ok (.iload_n 2, 1) := by decide +kernel
theorem dX10_carries_9 : decode cX10_carries 9 = .ok (.invokevirtual 90, 3) := by decide +kernel
theorem dX10_carries_12 : decode cX10_carries 12 = .ok (.aload_n 0, 1) := by decide +kernel
theorem dX10_carries_13 : decode cX10_carries 13 = .ok (.iload_n 1, 1) := by decide +kernel
theorem dX10_carries_14 : decode cX10_carries 14 = .ok (.iconst 5, 1) := by decide +kernel
theorem dX10_carries_15 : decode cX10_carries 15 = .ok (.iload_n 3, 1) := by decide +kernel
theorem dX10_carries_16 : decode cX10_carries 16 = .ok (.invokevirtual 90, 3) := by decide +kernel
theorem dX10_carries_19 : decode cX10_carries 19 = .ok (.aload_n 0, 1) := by decide +kernel
theorem dX10_carries_20 : decode cX10_carries 20 = .ok (.iload_n 1, 1) := by decide +kernel
theorem dX10_carries_21 : decode cX10_carries 21 = .ok (.bipush 6, 2) := by decide +kernel
theorem dX10_carries_23 : decode cX10_carries 23 = .ok (.iload 4, 2) := by decide +kernel
theorem dX10_carries_25 : decode cX10_carries 25 = .ok (.invokevirtual 90, 3) := by decide +kernel
theorem dX10_carries_28 : decode cX10_carries 28 = .ok (.aload_n 0, 1) := by decide +kernel
theorem dX10_carries_29 : decode cX10_carries 29 = .ok (.getfield 7, 3) := by decide +kernel
theorem dX10_carries_32 : decode cX10_carries 32 = .ok (.iconst 3, 1) := by decide +kernel
theorem dX10_carries_33 : decode cX10_carries 33 = .ok (.dup2, 1) := by decide +kernel
theorem dX10_carries_34 : decode cX10_carries 34 = .ok (.iaload, 1) := by decide +kernel
theorem dX10_carries_35 : decode cX10_carries 35 = .ok (.iconst 1, 1) := by decide +kernel
theorem dX10_carries_36 : decode cX10_carries 36 = .ok (.iadd, 1) := by decide +kernel
theorem dX10_carries_37 : decode cX10_carries 37 = .ok (.iastore, 1) := by decide +kernel
theorem dX10_carries_38 : decode cX10_carries 38 = .ok (.aload_n 0, 1) := by decide +kernel
theorem dX10_carries_39 : decode cX10_carries 39 = .ok (.getfield 7, 3) := by decide +kernel
theorem dX10_carries_42 : decode cX10_carries 42 = .ok (.iconst 4, 1) := by decide +kernel
theorem dX10_carries_43 : decode cX10_carries 43 = .ok (.dup2, 1) := by decide +kernel
theorem dX10_carries_44 : decode cX10_carries 44 = .ok (.iaload, 1) := by decide +kernel
theorem dX10_carries_45 : decode cX10_carries 45 = .ok (.iload 5, 2) := by decide +kernel
theorem dX10_carries_47 : decode cX10_carries 47 = .ok (.iadd, 1) := by decide +kernel
theorem dX10_carries_48 : decode cX10_carries 48 = .ok (.iastore, 1) := by decide +kernel
theorem dX10_carries_49 : decode cX10_carries 49 = .ok (.return_, 1) := by decide +kernel
theorem dX10_put_0 : decode cX10_put 0 = .ok (.aload_n 0, 1) := by decide +kernel
theorem dX10_put_1 : decode cX10_put 1 = .ok (.iconst 1, 1) := by decide +kernel
theorem dX10_put_2 : decode cX10_put 2 = .ok (.putfield 132, 3) := by decide +kernel
theorem dX10_put_5 : decode cX10_put 5 = .ok (.aload_n 0, 1) := by decide +kernel
theorem dX10_put_6 : decode cX10_put 6 = .ok (.iconst (-1), 1) := by decide +kernel
theorem dX10_put_7 : decode cX10_put 7 = .ok (.putfield 19, 3) := by decide +kernel
theorem dX10_put_10 : decode cX10_put 10 = .ok (.aload_n 0, 1) := by decide +kernel
theorem dX10_put_11 : decode cX10_put 11 = .ok (.iload_n 1, 1) := by decide +kernel
theorem dX10_put_12 : decode cX10_put 12 = .ok (.invokevirtual 135, 3) := by decide +kernel
theorem dX10_put_15 : decode cX10_put 15 = .ok (.ifCond .eq 34, 3) := by decide +kernel
theorem dX10_put_18 : decode cX10_put 18 = .ok (.aload_n 0, 1) := by decide +kernel
theorem dX10_put_19 : decode cX10_put 19 = .ok (.iload_n 1, 1) := by decide +kernel
theorem dX10_put_20 : decode cX10_put 20 = .ok (.iconst 5, 1) := by decide +kernel
theorem dX10_put_21 : decode cX10_put 21 = .ok (.invokevirtual 94, 3) := by decide +kernel
theorem dX10_put_24 : decode cX10_put 24 = .ok (.iconst (-1), 1) := by decide +kernel
theorem dX10_put_25 : decode cX10_put 25 = .ok (.if_icmp .ne 24, 3) := by decide +kernel
theorem dX10_put_28 : decode cX10_put 28 = .ok (.iload_n 2, 1) := by decide +kernel
theorem dX10_put_29 : decode cX10_put 29 = .ok (.iconst 0, 1) := by decide +kernel
theorem dX10_put_30 : decode cX10_put 30 = .ok (.aload_n 0, 1) := by decide +kernel
theorem dX10_put_31 : decode cX10_put 31 = .ok (.getfield 7, 3) := by decide +kernel
theorem dX10_put_34 : decode cX10_put 34 = .ok (.iconst 0, 1) := by decide +kernel
theorem dX10_put_35 : decode cX10_put 35 = .ok (.iaload, 1) := by decide +kernel
theorem dX10_put_36 : decode cX10_put 36 = .ok (.aload_n 0, 1) := by decide +kernel
theorem dX10_put_37 : decode cX10_put 37 = .ok (.iload_n 1, 1) := by decide +kernel
theorem dX10_put_38 : decode cX10_put 38 = .ok (.iconst 0, 1) := by decide +kernel
theorem dX10_put_39 : decode cX10_put 39 = .ok (.invokevirtual 94, 3) := by decide +kernel
theorem dX10_put_42 : decode cX10_put 42 = .ok (.isub, 1) := by decide +kernel
theorem dX10_put_43 : decode cX10_put 43 = .ok (.invokestatic 76, 3) := by decide +kernel
theorem dX10_put_46 : decode cX10_put 46 = .ok (.ifCond .ne 5, 3) := by decide +kernel
theorem dX10_put_49 : decode cX10_put 49 = .ok (.iconst (-1), 1) := by decide +kernel
theorem dX10_put_50 : decode cX10_put 50 = .ok (.ireturn, 1) := by decide +kernel
theorem dX10_put_51 : decode cX10_put 51 = .ok (.aload_n 0, 1) := by decide +kernel
theorem dX10_put_52 : decode cX10_put 52 = .ok (.invokevirtual 138, 3) := by decide +kernel
theorem dX10_put_55 : decode cX10_put 55 = .ok (.aload_n 0, 1) := by decide +kernel
theorem dX10_put_56 : decode cX10_put 56 = .ok (.aload_n 0, 1) := by decide +kernel
theorem dX10_put_57 : decode cX10_put 57 = .ok (.iload_n 1, 1) := by decide +kernel
theorem dX10_put_58 : decode cX10_put 58 = .ok (.iload_n 2, 1) := by decide +kernel
theorem dX10_put_59 : decode cX10_put 59 = .ok (.invokevirtual 141, 3) := by decide +kernel
theorem dX10_put_62 : decode cX10_put 62 = .ok (.putfield 132, 3) := by decide +kernel
theorem dX10_put_65 : decode cX10_put 65 = .ok (.aload_n 0, 1) := by decide +kernel
theorem dX10_put_66 : decode cX10_put 66 = .ok (.getfield 132, 3) := by decide +kernel
theorem dX10_put_69 : decode cX10_put 69 = .ok (.ifCond .eq 5, 3) := by decide +kernel
theorem dX10_put_72 : decode cX10_put 72 = .ok (.iconst (-1), 1) := by decide +kernel
theorem dX10_put_73 : decode cX10_put 73 = .ok (.ireturn, 1) := by decide +kernel
theorem dX10_put_74 : decode cX10_put 74 = .ok (.aload_n 0, 1) := by decide +kernel
theorem dX10_put_75 : decode cX10_put 75 = .ok (.iload_n 1, 1) := by decide +kernel
theorem dX10_put_76 : decode cX10_put 76 = .ok (.iconst (-1), 1) := by decide +kernel
theorem dX10_put_77 : decode cX10_put 77 = .ok (.iload_n 2, 1) := by decide +kernel
theorem dX10_put_78 : decode cX10_put 78 = .ok (.aload_n 0, 1) := by decide +kernel
theorem dX10_put_79 : decode cX10_put 79 = .ok (.getfield 26, 3) := by decide +kernel
theorem dX10_put_82 : decode cX10_put 82 = .ok (.iload_n 1, 1) := by decide +kernel
theorem dX10_put_83 : decode cX10_put 83 = .ok (.iaload, 1) := by decide +kernel
theorem dX10_put_84 : decode cX10_put 84 = .ok (.aload_n 0, 1) := by decide +kernel
theorem dX10_put_85 : decode cX10_put 85 = .ok (.aload_n 0, 1) := by decide +kernel
theorem dX10_put_86 : decode cX10_put 86 = .ok (.iload_n 1, 1) := by decide +kernel
theorem dX10_put_87 : decode cX10_put 87 = .ok (.iconst 4, 1) := by decide +kernel
theorem dX10_put_88 : decode cX10_put 88 = .ok (.invokevirtual 94, 3) := by decide +kernel
theorem dX10_put_91 : decode cX10_put 91 = .ok (.iload_n 2, 1) := by decide +kernel
theorem dX10_put_92 : decode cX10_put 92 = .ok (.aload_n 0, 1) := by decide +kernel
theorem dX10_put_93 : decode cX10_put 93 = .ok (.getfield 26, 3) := by decide +kernel
theorem dX10_put_96 : decode cX10_put 96 = .ok (.iload_n 1, 1) := by decide +kernel
theorem dX10_put_97 : decode cX10_put 97 = .ok (.iaload, 1) := by decide +kernel
theorem dX10_put_98 : decode cX10_put 98 = .ok (.invokevirtual 144, 3) := by decide +kernel
theorem dX10_put_101 : decode cX10_put 101 = .ok (.invokevirtual 148, 3) := by decide +kernel
theorem dX10_put_104 : decode cX10_put 104 = .ok (.aload_n 0, 1) := by decide +kernel
theorem dX10_put_105 : decode cX10_put 105 = .ok (.getfield 26, 3) := by decide +kernel
theorem dX10_put_108 : decode cX10_put 108 = .ok (.iload_n 1, 1) := by decide +kernel
theorem dX10_put_109 : decode cX10_put 109 = .ok (.iaload, 1) := by decide +kernel
theorem dX10_put_110 : decode cX10_put 110 = .ok (.ireturn, 1) := by decide +kernel
theorem dX10_take_0 : decode cX10_take 0 = .ok (.aload_n 0, 1) := by decide +kernel
theorem dX10_take_1 : decode cX10_take 1 = .ok (.iconst 1, 1) := by decide +kernel
theorem dX10_take_2 : decode cX10_take 2 = .ok (.putfield 132, 3) := by decide +kernel
theorem dX10_take_5 : decode cX10_take 5 = .ok (.aload_n 0, 1) := by decide +kernel
theorem dX10_take_6 : decode cX10_take 6 = .ok (.iconst (-1), 1) := by decide +kernel
theorem dX10_take_7 : decode cX10_take 7 = .ok (.putfield 19, 3) := by decide +kernel
theorem dX10_take_10 : decode cX10_take 10 = .ok (.aload_n 0, 1) := by decide +kernel
theorem dX10_take_11 : decode cX10_take 11 = .ok (.invokevirtual 138, 3) := by decide +kernel
theorem dX10_take_14 : decode cX10_take 14 = .ok (.aload_n 0, 1) := by decide +kernel
theorem dX10_take_15 : decode cX10_take 15 = .ok (.iload_n 1, 1) := by decide +kernel
theorem dX10_take_16 : decode cX10_take 16 = .ok (.invokevirtual 135, 3) := by decide +kernel
theorem dX10_take_19 : decode cX10_take 19 = .ok (.ifCond .eq 31, 3) := by decide +kernel
theorem dX10_take_22 : decode cX10_take 22 = .ok (.aload_n 0, 1) := by decide +kernel
theorem dX10_take_23 : decode cX10_take 23 = .ok (.iload_n 1, 1) := by decide +kernel
theorem dX10_take_24 : decode cX10_take 24 = .ok (.iconst 5, 1) := by decide +kernel
theorem dX10_take_25 : decode cX10_take 25 = .ok (.invokevirtual 94, 3) := by decide +kernel
theorem dX10_take_28 : decode cX10_take 28 = .ok (.iconst (-1), 1) := by decide +kernel
theorem dX10_take_29 : decode cX10_take 29 = .ok (.if_icmp .eq 21, 3) := by decide +kernel
theorem dX10_take_32 : decode cX10_take 32 = .ok (.iload_n 2, 1) := by decide +kernel
theorem dX10_take_33 : decode cX10_take 33 = .ok (.iconst 0, 1) := by decide +kernel
theorem dX10_take_34 : decode cX10_take 34 = .ok (.bipush 59, 2) := by decide +kernel
theorem dX10_take_36 : decode cX10_take 36 = .ok (.invokestatic 76, 3) := by decide +kernel
theorem dX10_take_39 : decode cX10_take 39 = .ok (.ifCond .eq 11, 3) := by decide +kernel
theorem dX10_take_42 : decode cX10_take 42 = .ok (.aload_n 0, 1) := by decide +kernel
theorem dX10_take_43 : decode cX10_take 43 = .ok (.iload_n 1, 1) := by decide +kernel
theorem dX10_take_44 : decode cX10_take 44 = .ok (.invokevirtual 152, 3) := by decide +kernel
theorem dX10_take_47 : decode cX10_take 47 = .ok (.ifCond .ne 5, 3) := by decide +kernel
theorem dX10_take_50 : decode cX10_take 50 = .ok (.iconst 0, 1) := by decide +kernel
theorem dX10_take_51 : decode cX10_take 51 = .ok (.ireturn, 1) := by decide +kernel
theorem dX10_take_52 : decode cX10_take 52 = .ok (.aload_n 0, 1) := by decide +kernel
theorem dX10_take_53 : decode cX10_take 53 = .ok (.iconst 0, 1) := by decide +kernel
theorem dX10_take_54 : decode cX10_take 54 = .ok (.putfield 132, 3) := by decide +kernel
theorem dX10_take_57 : decode cX10_take 57 = .ok (.aload_n 0, 1) := by decide +kernel
theorem dX10_take_58 : decode cX10_take 58 = .ok (.iload_n 1, 1) := by decide +kernel
theorem dX10_take_59 : decode cX10_take 59 = .ok (.iload_n 2, 1) := by decide +kernel
theorem dX10_take_60 : decode cX10_take 60 = .ok (.iconst (-1), 1) := by decide +kernel
theorem dX10_take_61 : decode cX10_take 61 = .ok (.iconst (-1), 1) := by decide +kernel
theorem dX10_take_62 : decode cX10_take 62 = .ok (.aload_n 0, 1) := by decide +kernel
theorem dX10_take_63 : decode cX10_take 63 = .ok (.iload_n 2, 1) := by decide +kernel
theorem dX10_take_64 : decode cX10_take 64 = .ok (.aload_n 0, 1) := by decide +kernel
theorem dX10_take_65 : decode cX10_take 65 = .ok (.getfield 23, 3) := by decide +kernel
theorem dX10_take_68 : decode cX10_take 68 = .ok (.iload_n 1, 1) := by decide +kernel
theorem dX10_take_69 : decode cX10_take 69 = .ok (.iaload, 1) := by decide +kernel
theorem dX10_take_70 : decode cX10_take 70 = .ok (.aload_n 0, 1) := by decide +kernel
theorem dX10_take_71 : decode cX10_take 71 = .ok (.getfield 26, 3) := by decide +kernel
theorem dX10_take_74 : decode cX10_take 74 = .ok (.iload_n 1, 1) := by decide +kernel
theorem dX10_take_75 : decode cX10_take 75 = .ok (.iaload, 1) := by decide +kernel
theorem dX10_take_76 : decode cX10_take 76 = .ok (.invokevirtual 144, 3) := by decide +kernel
theorem dX10_take_79 : decode cX10_take 79 = .ok (.invokevirtual 148, 3) := by decide +kernel
theorem dX10_take_82 : decode cX10_take 82 = .ok (.iconst 1, 1) := by decide +kernel
theorem dX10_take_83 : decode cX10_take 83 = .ok (.ireturn, 1) := by decide +kernel
theorem dX10_refused_0 : decode cX10_refused 0 = .ok (.iload_n 1, 1) := by decide +kernel
theorem dX10_refused_1 : decode cX10_refused 1 = .ok (.ifCond .ne 10, 3) := by decide +kernel
theorem dX10_refused_4 : decode cX10_refused 4 = .ok (.aload_n 0, 1) := by decide +kernel
theorem dX10_refused_5 : decode cX10_refused 5 = .ok (.getfield 132, 3) := by decide +kernel
theorem dX10_refused_8 : decode cX10_refused 8 = .ok (.goto 16, 3) := by decide +kernel
theorem dX10_refused_11 : decode cX10_refused 11 = .ok (.iload_n 1, 1) := by decide +kernel
theorem dX10_refused_12 : decode cX10_refused 12 = .ok (.iconst 1, 1) := by decide +kernel
theorem dX10_refused_13 : decode cX10_refused 13 = .ok (.if_icmp .ne 10, 3) := by decide +kernel
theorem dX10_refused_16 : decode cX10_refused 16 = .ok (.aload_n 0, 1) := by decide +kernel
theorem dX10_refused_17 : decode cX10_refused 17 = .ok (.getfield 19, 3) := by decide +kernel
theorem dX10_refused_20 : decode cX10_refused 20 = .ok (.goto 4, 3) := by decide +kernel
theorem dX10_refused_23 : decode cX10_refused 23 = .ok (.iconst (-1), 1) := by decide +kernel
theorem dX10_refused_24 : decode cX10_refused 24 = .ok (.ireturn, 1) := by decide +kernel
theorem dX10_undo_0 : decode cX10_undo 0 = .ok (.aload_n 0, 1) := by decide +kernel
theorem dX10_undo_1 : decode cX10_undo 1 = .ok (.getfield 80, 3) := by decide +kernel
theorem dX10_undo_4 : decode cX10_undo 4 = .ok (.ifCond .ne 5, 3) := by decide +kernel
theorem dX10_undo_7 : decode cX10_undo 7 = .ok (.iconst 0, 1) := by decide +kernel
theorem dX10_undo_8 : decode cX10_undo 8 = .ok (.ireturn, 1) := by decide +kernel
theorem dX10_undo_9 : decode cX10_undo 9 = .ok (.aload_n 0, 1) := by decide +kernel
theorem dX10_undo_10 : decode cX10_undo 10 = .ok (.dup, 1) := by decide +kernel
theorem dX10_undo_11 : decode cX10_undo 11 = .ok (.getfield 80, 3) := by decide +kernel
theorem dX10_undo_14 : decode cX10_undo 14 = .ok (.iconst 1, 1) := by decide +kernel
theorem dX10_undo_15 : decode cX10_undo 15 = .ok (.isub, 1) := by decide +kernel
theorem dX10_undo_16 : decode cX10_undo 16 = .ok (.putfield 80, 3) := by decide +kernel
theorem dX10_undo_19 : decode cX10_undo 19 = .ok (.iconst 5, 1) := by decide +kernel
theorem dX10_undo_20 : decode cX10_undo 20 = .ok (.aload_n 0, 1) := by decide +kernel
theorem dX10_undo_21 : decode cX10_undo 21 = .ok (.getfield 80, 3) := by decide +kernel
theorem dX10_undo_24 : decode cX10_undo 24 = .ok (.imul, 1) := by decide +kernel
theorem dX10_undo_25 : decode cX10_undo 25 = .ok (.istore_n 1, 1) := by decide +kernel
theorem dX10_undo_26 : decode cX10_undo 26 = .ok (.aload_n 0, 1) := by decide +kernel
theorem dX10_undo_27 : decode cX10_undo 27 = .ok (.aload_n 0, 1) := by decide +kernel
theorem dX10_undo_28 : decode cX10_undo 28 = .ok (.getfield 16, 3) := by decide +kernel
theorem dX10_undo_31 : decode cX10_undo 31 = .ok (.iload_n 1, 1) := by decide +kernel
theorem dX10_undo_32 : decode cX10_undo 32 = .ok (.iaload, 1) := by decide +kernel
theorem dX10_undo_33 : decode cX10_undo 33 = .ok (.iconst 4, 1) := by decide +kernel
theorem dX10_undo_34 : decode cX10_undo 34 = .ok (.aload_n 0, 1) := by decide +kernel
theorem dX10_undo_35 : decode cX10_undo 35 = .ok (.getfield 16, 3) := by decide +kernel
theorem dX10_undo_38 : decode cX10_undo 38 = .ok (.iload_n 1, 1) := by decide +kernel
theorem dX10_undo_39 : decode cX10_undo 39 = .ok (.iconst 1, 1) := by decide +kernel
theorem dX10_undo_40 : decode cX10_undo 40 = .ok (.iadd, 1) := by decide +kernel
theorem dX10_undo_41 : decode cX10_undo 41 = .ok (.iaload, 1) := by decide +kernel
theorem dX10_undo_42 : decode cX10_undo 42 = .ok (.invokevirtual 90, 3) := by decide +kernel
theorem dX10_undo_45 : decode cX10_undo 45 = .ok (.aload_n 0, 1) := by decide +kernel
theorem dX10_undo_46 : decode cX10_undo 46 = .ok (.aload_n 0, 1) := by decide +kernel
theorem dX10_undo_47 : decode cX10_undo 47 = .ok (.getfield 16, 3) := by decide +kernel
theorem dX10_undo_50 : decode cX10_undo 50 = .ok (.iload_n 1, 1) := by decide +kernel
theorem dX10_undo_51 : decode cX10_undo 51 = .ok (.iaload, 1) := by decide +kernel
theorem dX10_undo_52 : decode cX10_undo 52 = .ok (.iconst 5, 1) := by decide +kernel
theorem dX10_undo_53 : decode cX10_undo 53 = .ok (.aload_n 0, 1) := by decide +kernel
theorem dX10_undo_54 : decode cX10_undo 54 = .ok (.getfield 16, 3) := by decide +kernel
theorem dX10_undo_57 : decode cX10_undo 57 = .ok (.iload_n 1, 1) := by decide +kernel
theorem dX10_undo_58 : decode cX10_undo 58 = .ok (.iconst 2, 1) := by decide +kernel
theorem dX10_undo_59 : decode cX10_undo 59 = .ok (.iadd, 1) := by decide +kernel
theorem dX10_undo_60 : decode cX10_undo 60 = .ok (.iaload, 1) := by decide +kernel
theorem dX10_undo_61 : decode cX10_undo 61 = .ok (.invokevirtual 90, 3) := by decide +kernel
theorem dX10_undo_64 : decode cX10_undo 64 = .ok (.aload_n 0, 1) := by decide +kernel
theorem dX10_undo_65 : decode cX10_undo 65 = .ok (.aload_n 0, 1) := by decide +kernel
theorem dX10_undo_66 : decode cX10_undo 66 = .ok (.getfield 16, 3) := by decide +kernel
theorem dX10_undo_69 : decode cX10_undo 69 = .ok (.iload_n 1, 1) := by decide +kernel
theorem dX10_undo_70 : decode cX10_undo 70 = .ok (.iaload, 1) := by decide +kernel
theorem dX10_undo_71 : decode cX10_undo 71 = .ok (.bipush 6, 2) := by decide +kernel
theorem dX10_undo_73 : decode cX10_undo 73 = .ok (.aload_n 0, 1) := by decide +kernel
theorem dX10_undo_74 : decode cX10_undo 74 = .ok (.getfield 16, 3) := by decide +kernel
theorem dX10_undo_77 : decode cX10_undo 77 = .ok (.iload_n 1, 1) := by decide +kernel
theorem dX10_undo_78 : decode cX10_undo 78 = .ok (.iconst 3, 1) := by decide +kernel
theorem dX10_undo_79 : decode cX10_undo 79 = .ok (.iadd, 1) := by decide +kernel
theorem dX10_undo_80 : decode cX10_undo 80 = .ok (.iaload, 1) := by decide +kernel
theorem dX10_undo_81 : decode cX10_undo 81 = .ok (.invokevirtual 90, 3) := by decide +kernel
theorem dX10_undo_84 : decode cX10_undo 84 = .ok (.aload_n 0, 1) := by decide +kernel
theorem dX10_undo_85 : decode cX10_undo 85 = .ok (.getfield 7, 3) := by decide +kernel
theorem dX10_undo_88 : decode cX10_undo 88 = .ok (.iconst 4, 1) := by decide +kernel
theorem dX10_undo_89 : decode cX10_undo 89 = .ok (.aload_n 0, 1) := by decide +kernel
theorem dX10_undo_90 : decode cX10_undo 90 = .ok (.getfield 16, 3) := by decide +kernel
theorem dX10_undo_93 : decode cX10_undo 93 = .ok (.iload_n 1, 1) := by decide +kernel
theorem dX10_undo_94 : decode cX10_undo 94 = .ok (.iconst 4, 1) := by decide +kernel
theorem dX10_undo_95 : decode cX10_undo 95 = .ok (.iadd, 1) := by decide +kernel
theorem dX10_undo_96 : decode cX10_undo 96 = .ok (.iaload, 1) := by decide +kernel
theorem dX10_undo_97 : decode cX10_undo 97 = .ok (.iastore, 1) := by decide +kernel
theorem dX10_undo_98 : decode cX10_undo 98 = .ok (.aload_n 0, 1) := by decide +kernel
theorem dX10_undo_99 : decode cX10_undo 99 = .ok (.getfield 7, 3) := by decide +kernel
theorem dX10_undo_102 : decode cX10_undo 102 = .ok (.iconst 3, 1) := by decide +kernel
theorem dX10_undo_103 : decode cX10_undo 103 = .ok (.dup2, 1) := by decide +kernel
theorem dX10_undo_104 : decode cX10_undo 104 = .ok (.iaload, 1) := by decide +kernel
theorem dX10_undo_105 : decode cX10_undo 105 = .ok (.iconst 1, 1) := by decide +kernel
theorem dX10_undo_106 : decode cX10_undo 106 = .ok (.isub, 1) := by decide +kernel
theorem dX10_undo_107 : decode cX10_undo 107 = .ok (.iastore, 1) := by decide +kernel
theorem dX10_undo_108 : decode cX10_undo 108 = .ok (.iconst 1, 1) := by decide +kernel
theorem dX10_undo_109 : decode cX10_undo 109 = .ok (.ireturn, 1) := by decide +kernel
theorem dX10_hand_0 : decode cX10_hand 0 = .ok (.iload_n 1, 1) := by decide +kernel
theorem dX10_hand_1 : decode cX10_hand 1 = .ok (.iconst 1, 1) := by decide +kernel
theorem dX10_hand_2 : decode cX10_hand 2 = .ok (.bipush 99, 2) := by decide +kernel
theorem dX10_hand_4 : decode cX10_hand 4 = .ok (.invokestatic 76, 3) := by decide +kernel
theorem dX10_hand_7 : decode cX10_hand 7 = .ok (.ifCond .eq 15, 3) := by decide +kernel
theorem dX10_hand_10 : decode cX10_hand 10 = .ok (.aload_n 0, 1) := by decide +kernel
theorem dX10_hand_11 : decode cX10_hand 11 = .ok (.getfield 7, 3) := by decide +kernel
theorem dX10_hand_14 : decode cX10_hand 14 = .ok (.bipush 8, 2) := by decide +kernel
theorem dX10_hand_16 : decode cX10_hand 16 = .ok (.iaload, 1) := by decide +kernel
theorem dX10_hand_17 : decode cX10_hand 17 = .ok (.bipush 8, 2) := by decide +kernel
theorem dX10_hand_19 : decode cX10_hand 19 = .ok (.if_icmp .ne 5, 3) := by decide +kernel
theorem dX10_hand_22 : decode cX10_hand 22 = .ok (.iconst (-1), 1) := by decide +kernel
theorem dX10_hand_23 : decode cX10_hand 23 = .ok (.ireturn, 1) := by decide +kernel
theorem dX10_hand_24 : decode cX10_hand 24 = .ok (.aload_n 0, 1) := by decide +kernel
theorem dX10_hand_25 : decode cX10_hand 25 = .ok (.getfield 7, 3) := by decide +kernel
theorem dX10_hand_28 : decode cX10_hand 28 = .ok (.sipush 180, 3) := by decide +kernel
theorem dX10_hand_31 : decode cX10_hand 31 = .ok (.aload_n 0, 1) := by decide +kernel
theorem dX10_hand_32 : decode cX10_hand 32 = .ok (.getfield 7, 3) := by decide +kernel
theorem dX10_hand_35 : decode cX10_hand 35 = .ok (.bipush 8, 2) := by decide +kernel
theorem dX10_hand_37 : decode cX10_hand 37 = .ok (.iaload, 1) := by decide +kernel
theorem dX10_hand_38 : decode cX10_hand 38 = .ok (.iadd, 1) := by decide +kernel
theorem dX10_hand_39 : decode cX10_hand 39 = .ok (.iload_n 1, 1) := by decide +kernel
theorem dX10_hand_40 : decode cX10_hand 40 = .ok (.iastore, 1) := by decide +kernel
theorem dX10_hand_41 : decode cX10_hand 41 = .ok (.aload_n 0, 1) := by decide +kernel
theorem dX10_hand_42 : decode cX10_hand 42 = .ok (.getfield 7, 3) := by decide +kernel
theorem dX10_hand_45 : decode cX10_hand 45 = .ok (.bipush 8, 2) := by decide +kernel
theorem dX10_hand_47 : decode cX10_hand 47 = .ok (.dup2, 1) := by decide +kernel
theorem dX10_hand_48 : decode cX10_hand 48 = .ok (.iaload, 1) := by decide +kernel
theorem dX10_hand_49 : decode cX10_hand 49 = .ok (.iconst 1, 1) := by decide +kernel
theorem dX10_hand_50 : decode cX10_hand 50 = .ok (.iadd, 1) := by decide +kernel
theorem dX10_hand_51 : decode cX10_hand 51 = .ok (.iastore, 1) := by decide +kernel
theorem dX10_hand_52 : decode cX10_hand 52 = .ok (.aload_n 0, 1) := by decide +kernel
theorem dX10_hand_53 : decode cX10_hand 53 = .ok (.getfield 7, 3) := by decide +kernel
theorem dX10_hand_56 : decode cX10_hand 56 = .ok (.bipush 8, 2) := by decide +kernel
theorem dX10_hand_58 : decode cX10_hand 58 = .ok (.iaload, 1) := by decide +kernel
theorem dX10_hand_59 : decode cX10_hand 59 = .ok (.iconst 1, 1) := by decide +kernel
theorem dX10_hand_60 : decode cX10_hand 60 = .ok (.isub, 1) := by decide +kernel
theorem dX10_hand_61 : decode cX10_hand 61 = .ok (.ireturn, 1) := by decide +kernel
theorem dX10_isHand_0 : decode cX10_isHand 0 = .ok (.iload_n 1, 1) := by decide +kernel
theorem dX10_isHand_1 : decode cX10_isHand 1 = .ok (.iconst 0, 1) := by decide +kernel
theorem dX10_isHand_2 : decode cX10_isHand 2 = .ok (.aload_n 0, 1) := by decide +kernel
theorem dX10_isHand_3 : decode cX10_isHand 3 = .ok (.getfield 7, 3) := by decide +kernel
theorem dX10_isHand_6 : decode cX10_isHand 6 = .ok (.bipush 8, 2) := by decide +kernel
theorem dX10_isHand_8 : decode cX10_isHand 8 = .ok (.iaload, 1) := by decide +kernel
theorem dX10_isHand_9 : decode cX10_isHand 9 = .ok (.iconst 1, 1) := by decide +kernel
theorem dX10_isHand_10 : decode cX10_isHand 10 = .ok (.isub, 1) := by decide +kernel
theorem dX10_isHand_11 : decode cX10_isHand 11 = .ok (.invokestatic 76, 3) := by decide +kernel
theorem dX10_isHand_14 : decode cX10_isHand 14 = .ok (.ireturn, 1) := by decide +kernel
theorem dX10_quarrel_0 : decode cX10_quarrel 0 = .ok (.aload_n 0, 1) := by decide +kernel
theorem dX10_quarrel_1 : decode cX10_quarrel 1 = .ok (.iload_n 1, 1) := by decide +kernel
theorem dX10_quarrel_2 : decode cX10_quarrel 2 = .ok (.invokevirtual 155, 3) := by decide +kernel
theorem dX10_quarrel_5 : decode cX10_quarrel 5 = .ok (.ifCond .eq 16, 3) := by decide +kernel
theorem dX10_quarrel_8 : decode cX10_quarrel 8 = .ok (.aload_n 0, 1) := by decide +kernel
theorem dX10_quarrel_9 : decode cX10_quarrel 9 = .ok (.iload_n 2, 1) := by decide +kernel
theorem dX10_quarrel_10 : decode cX10_quarrel 10 = .ok (.invokevirtual 155, 3) := by decide +kernel
theorem dX10_quarrel_13 : decode cX10_quarrel 13 = .ok (.ifCond .eq 8, 3) := by decide +kernel
theorem dX10_quarrel_16 : decode cX10_quarrel 16 = .ok (.iload_n 1, 1) := by decide +kernel
theorem dX10_quarrel_17 : decode cX10_quarrel 17 = .ok (.iload_n 2, 1) := by decide +kernel
theorem dX10_quarrel_18 : decode cX10_quarrel 18 = .ok (.if_icmp .ne 5, 3) := by decide +kernel
theorem dX10_quarrel_21 : decode cX10_quarrel 21 = .ok (.iconst 0, 1) := by decide +kernel
theorem dX10_quarrel_22 : decode cX10_quarrel 22 = .ok (.ireturn, 1) := by decide +kernel
theorem dX10_quarrel_23 : decode cX10_quarrel 23 = .ok (.aload_n 0, 1) := by decide +kernel
theorem dX10_quarrel_24 : decode cX10_quarrel 24 = .ok (.getfield 7, 3) := by decide +kernel
theorem dX10_quarrel_27 : decode cX10_quarrel 27 = .ok (.sipush 190, 3) := by decide +kernel
theorem dX10_quarrel_30 : decode cX10_quarrel 30 = .ok (.bipush 8, 2) := by decide +kernel
theorem dX10_quarrel_32 : decode cX10_quarrel 32 = .ok (.iload_n 1, 1) := by decide +kernel
theorem dX10_quarrel_33 : decode cX10_quarrel 33 = .ok (.imul, 1) := by decide +kernel
theorem dX10_quarrel_34 : decode cX10_quarrel 34 = .ok (.iadd, 1) := by decide +kernel
theorem dX10_quarrel_35 : decode cX10_quarrel 35 = .ok (.iload_n 2, 1) := by decide +kernel
theorem dX10_quarrel_36 : decode cX10_quarrel 36 = .ok (.iadd, 1) := by decide +kernel
theorem dX10_quarrel_37 : decode cX10_quarrel 37 = .ok (.iload_n 3, 1) := by decide +kernel
theorem dX10_quarrel_38 : decode cX10_quarrel 38 = .ok (.ifCond .eq 7, 3) := by decide +kernel
theorem dX10_quarrel_41 : decode cX10_quarrel 41 = .ok (.iconst 1, 1) := by decide +kernel
theorem dX10_quarrel_42 : decode cX10_quarrel 42 = .ok (.goto 4, 3) := by decide +kernel
theorem dX10_quarrel_45 : decode cX10_quarrel 45 = .ok (.iconst 0, 1) := by decide +kernel
theorem dX10_quarrel_46 : decode cX10_quarrel 46 = .ok (.iastore, 1) := by decide +kernel
theorem dX10_quarrel_47 : decode cX10_quarrel 47 = .ok (.aload_n 0, 1) := by decide +kernel
theorem dX10_quarrel_48 : decode cX10_quarrel 48 = .ok (.getfield 7, 3) := by decide +kernel
theorem dX10_quarrel_51 : decode cX10_quarrel 51 = .ok (.sipush 190, 3) := by decide +kernel
theorem dX10_quarrel_54 : decode cX10_quarrel 54 = .ok (.bipush 8, 2) := by decide +kernel
theorem dX10_quarrel_56 : decode cX10_quarrel 56 = .ok (.iload_n 2, 1) := by decide +kernel
theorem dX10_quarrel_57 : decode cX10_quarrel 57 = .ok (.imul, 1) := by decide +kernel
theorem dX10_quarrel_58 : decode cX10_quarrel 58 = .ok (.iadd, 1) := by decide +kernel
theorem dX10_quarrel_59 : decode cX10_quarrel 59 = .ok (.iload_n 1, 1) := by decide +kernel
theorem dX10_quarrel_60 : decode cX10_quarrel 60 = .ok (.iadd, 1) := by decide +kernel
theorem dX10_quarrel_61 : decode cX10_quarrel 61 = .ok (.iload_n 3, 1) := by decide +kernel
theorem dX10_quarrel_62 : decode cX10_quarrel 62 = .ok (.ifCond .eq 7, 3) := by decide +kernel
theorem dX10_quarrel_65 : decode cX10_quarrel 65 = .ok (.iconst 1, 1) := by decide +kernel
theorem dX10_quarrel_66 : decode cX10_quarrel 66 = .ok (.goto 4, 3) := by decide +kernel
theorem dX10_quarrel_69 : decode cX10_quarrel 69 = .ok (.iconst 0, 1) := by decide +kernel
theorem dX10_quarrel_70 : decode cX10_quarrel 70 = .ok (.iastore, 1) := by decide +kernel
theorem dX10_quarrel_71 : decode cX10_quarrel 71 = .ok (.iconst 1, 1) := by decide +kernel
theorem dX10_quarrel_72 : decode cX10_quarrel 72 = .ok (.ireturn, 1) := by decide +kernel
theorem dX10_count_0 : decode cX10_count 0 = .ok (.iconst 0, 1) := by decide +kernel
theorem dX10_count_1 : decode cX10_count 1 = .ok (.istore_n 1, 1) := by decide +kernel
theorem dX10_count_2 : decode cX10_count 2 = .ok (.iconst 0, 1) := by decide +kernel
theorem dX10_count_3 : decode cX10_count 3 = .ok (.istore_n 2, 1) := by decide +kernel
theorem dX10_count_4 : decode cX10_count 4 = .ok (.iload_n 2, 1) := by decide +kernel
theorem dX10_count_5 : decode cX10_count 5 = .ok (.bipush 20, 2) := by decide +kernel
theorem dX10_count_7 : decode cX10_count 7 = .ok (.if_icmp .ge 17, 3) := by decide +kernel
theorem dX10_count_10 : decode cX10_count 10 = .ok (.iload_n 1, 1) := by decide +kernel
theorem dX10_count_11 : decode cX10_count 11 = .ok (.iload_n 0, 1) := by decide +kernel
theorem dX10_count_12 : decode cX10_count 12 = .ok (.iload_n 2, 1) := by decide +kernel
theorem dX10_count_13 : decode cX10_count 13 = .ok (.ishr, 1) := by decide +kernel
theorem dX10_count_14 : decode cX10_count 14 = .ok (.iconst 1, 1) := by decide +kernel
theorem dX10_count_15 : decode cX10_count 15 = .ok (.iand, 1) := by decide +kernel
theorem dX10_count_16 : decode cX10_count 16 = .ok (.iadd, 1) := by decide +kernel
theorem dX10_count_17 : decode cX10_count 17 = .ok (.istore_n 1, 1) := by decide +kernel
theorem dX10_count_18 : decode cX10_count 18 = .ok (.iinc 2 1, 3) := by decide +kernel
theorem dX10_count_21 : decode cX10_count 21 = .ok (.goto (-17), 3) := by decide +kernel
theorem dX10_count_24 : decode cX10_count 24 = .ok (.iload_n 1, 1) := by decide +kernel
theorem dX10_count_25 : decode cX10_count 25 = .ok (.ireturn, 1) := by decide +kernel
theorem dX10_canCarry_0 : decode cX10_canCarry 0 = .ok (.iconst 0, 1) := by decide +kernel
theorem dX10_canCarry_1 : decode cX10_canCarry 1 = .ok (.istore_n 3, 1) := by decide +kernel
theorem dX10_canCarry_2 : decode cX10_canCarry 2 = .ok (.iconst 0, 1) := by decide +kernel
theorem dX10_canCarry_3 : decode cX10_canCarry 3 = .ok (.istore 4, 2) := by decide +kernel
theorem dX10_canCarry_5 : decode cX10_canCarry 5 = .ok (.iload 4, 2) := by decide +kernel
theorem dX10_canCarry_7 : decode cX10_canCarry 7 = .ok (.aload_n 0, 1) := by decide +kernel
theorem dX10_canCarry_8 : decode cX10_canCarry 8 = .ok (.getfield 7, 3) := by decide +kernel
theorem dX10_canCarry_11 : decode cX10_canCarry 11 = .ok (.bipush 8, 2) := by decide +kernel
theorem dX10_canCarry_13 : decode cX10_canCarry 13 = .ok (.iaload, 1) := by decide +kernel
theorem dX10_canCarry_14 : decode cX10_canCarry 14 = .ok (.if_icmp .ge 84, 3) := by decide +kernel
theorem dX10_canCarry_17 : decode cX10_canCarry 17 = .ok (.iload_n 1, 1) := by decide +kernel
theorem dX10_canCarry_18 : decode cX10_canCarry 18 = .ok (.iload 4, 2) := by decide +kernel
theorem dX10_canCarry_20 : decode cX10_canCarry 20 = .ok (.ishr, 1) := by decide +kernel
theorem dX10_canCarry_21 : decode cX10_canCarry 21 = .ok (.iconst 1, 1) := by decide +kernel
theorem dX10_canCarry_22 : decode cX10_canCarry 22 = .ok (.iand, 1) := by decide +kernel
theorem dX10_canCarry_23 : decode cX10_canCarry 23 = .ok (.ifCond .ne 6, 3) := by decide +kernel
theorem dX10_canCarry_26 : decode cX10_canCarry 26 = .ok (.goto 66, 3) := by decide +kernel
theorem dX10_canCarry_29 : decode cX10_canCarry 29 = .ok (.iload_n 3, 1) := by decide +kernel
theorem dX10_canCarry_30 : decode cX10_canCarry 30 = .ok (.aload_n 0, 1) := by decide +kernel
theorem dX10_canCarry_31 : decode cX10_canCarry 31 = .ok (.getfield 7, 3) := by decide +kernel
theorem dX10_canCarry_34 : decode cX10_canCarry 34 = .ok (.sipush 180, 3) := by decide +kernel
theorem dX10_canCarry_37 : decode cX10_canCarry 37 = .ok (.iload 4, 2) := by decide +kernel
theorem dX10_canCarry_39 : decode cX10_canCarry 39 = .ok (.iadd, 1) := by decide +kernel
theorem dX10_canCarry_40 : decode cX10_canCarry 40 = .ok (.iaload, 1) := by decide +kernel
theorem dX10_canCarry_41 : decode cX10_canCarry 41 = .ok (.iadd, 1) := by decide +kernel
theorem dX10_canCarry_42 : decode cX10_canCarry 42 = .ok (.istore_n 3, 1) := by decide +kernel
theorem dX10_canCarry_43 : decode cX10_canCarry 43 = .ok (.iconst 0, 1) := by decide +kernel
theorem dX10_canCarry_44 : decode cX10_canCarry 44 = .ok (.istore 5, 2) := by decide +kernel
theorem dX10_canCarry_46 : decode cX10_canCarry 46 = .ok (.iload 5, 2) := by decide +kernel
theorem dX10_canCarry_48 : decode cX10_canCarry 48 = .ok (.iload 4, 2) := by decide +kernel
theorem dX10_canCarry_50 : decode cX10_canCarry 50 = .ok (.if_icmp .ge 42, 3) := by decide +kernel
theorem dX10_canCarry_53 : decode cX10_canCarry 53 = .ok (.iload_n 1, 1) := by decide +kernel
theorem dX10_canCarry_54 : decode cX10_canCarry 54 = .ok (.iload 5, 2) := by decide +kernel
theorem dX10_canCarry_56 : decode cX10_canCarry 56 = .ok (.ishr, 1) := by decide +kernel
theorem dX10_canCarry_57 : decode cX10_canCarry 57 = .ok (.iconst 1, 1) := by decide +kernel
theorem dX10_canCarry_58 : decode cX10_canCarry 58 = .ok (.iand, 1) := by decide +kernel
theorem dX10_canCarry_59 : decode cX10_canCarry 59 = .ok (.iconst 1, 1) := by decide +kernel
theorem dX10_canCarry_60 : decode cX10_canCarry 60 = .ok (.if_icmp .ne 26, 3) := by decide +kernel
theorem dX10_canCarry_63 : decode cX10_canCarry 63 = .ok (.aload_n 0, 1) := by decide +kernel
theorem dX10_canCarry_64 : decode cX10_canCarry 64 = .ok (.getfield 7, 3) := by decide +kernel
theorem dX10_canCarry_67 : decode cX10_canCarry 67 = .ok (.sipush 190, 3) := by decide +kernel
theorem dX10_canCarry_70 : decode cX10_canCarry 70 = .ok (.bipush 8, 2) := by decide +kernel
theorem dX10_canCarry_72 : decode cX10_canCarry 72 = .ok (.iload 4, 2) := by decide +kernel
theorem dX10_canCarry_74 : decode cX10_canCarry 74 = .ok (.imul, 1) := by decide +kernel
theorem dX10_canCarry_75 : decode cX10_canCarry 75 = .ok (.iadd, 1) := by decide +kernel
theorem dX10_canCarry_76 : decode cX10_canCarry 76 = .ok (.iload 5, 2) := by decide +kernel
theorem dX10_canCarry_78 : decode cX10_canCarry 78 = .ok (.iadd, 1) := by decide +kernel
theorem dX10_canCarry_79 : decode cX10_canCarry 79 = .ok (.iaload, 1) := by decide +kernel
theorem dX10_canCarry_80 : decode cX10_canCarry 80 = .ok (.iconst 1, 1) := by decide +kernel
theorem dX10_canCarry_81 : decode cX10_canCarry 81 = .ok (.if_icmp .ne 5, 3) := by decide +kernel
theorem dX10_canCarry_84 : decode cX10_canCarry 84 = .ok (.iconst 0, 1) := by decide +kernel
theorem dX10_canCarry_85 : decode cX10_canCarry 85 = .ok (.ireturn, 1) := by decide +kernel
theorem dX10_canCarry_86 : decode cX10_canCarry 86 = .ok (.iinc 5 1, 3) := by decide +kernel
theorem dX10_canCarry_89 : decode cX10_canCarry 89 = .ok (.goto (-43), 3) := by decide +kernel
theorem dX10_canCarry_92 : decode cX10_canCarry 92 = .ok (.iinc 4 1, 3) := by decide +kernel
theorem dX10_canCarry_95 : decode cX10_canCarry 95 = .ok (.goto (-90), 3) := by decide +kernel
theorem dX10_canCarry_98 : decode cX10_canCarry 98 = .ok (.iload_n 3, 1) := by decide +kernel
theorem dX10_canCarry_99 : decode cX10_canCarry 99 = .ok (.iload_n 2, 1) := by decide +kernel
theorem dX10_canCarry_100 : decode cX10_canCarry 100 = .ok (.if_icmp .lt 7, 3) := by decide +kernel
theorem dX10_canCarry_103 : decode cX10_canCarry 103 = .ok (.iconst 1, 1) := by decide +kernel
theorem dX10_canCarry_104 : decode cX10_canCarry 104 = .ok (.goto 4, 3) := by decide +kernel
theorem dX10_canCarry_107 : decode cX10_canCarry 107 = .ok (.iconst 0, 1) := by decide +kernel
theorem dX10_canCarry_108 : decode cX10_canCarry 108 = .ok (.ireturn, 1) := by decide +kernel
theorem dX10_hands_0 : decode cX10_hands 0 = .ok (.iconst (-1), 1) := by decide +kernel
theorem dX10_hands_1 : decode cX10_hands 1 = .ok (.istore_n 2, 1) := by decide +kernel
theorem dX10_hands_2 : decode cX10_hands 2 = .ok (.iconst 0, 1) := by decide +kernel
theorem dX10_hands_3 : decode cX10_hands 3 = .ok (.istore_n 3, 1) := by decide +kernel
theorem dX10_hands_4 : decode cX10_hands 4 = .ok (.iload_n 3, 1) := by decide +kernel
theorem dX10_hands_5 : decode cX10_hands 5 = .ok (.iconst 1, 1) := by decide +kernel
theorem dX10_hands_6 : decode cX10_hands 6 = .ok (.aload_n 0, 1) := by decide +kernel
theorem dX10_hands_7 : decode cX10_hands 7 = .ok (.getfield 7, 3) := by decide +kernel
theorem dX10_hands_10 : decode cX10_hands 10 = .ok (.bipush 8, 2) := by decide +kernel
theorem dX10_hands_12 : decode cX10_hands 12 = .ok (.iaload, 1) := by decide +kernel
theorem dX10_hands_13 : decode cX10_hands 13 = .ok (.ishl, 1) := by decide +kernel
theorem dX10_hands_14 : decode cX10_hands 14 = .ok (.if_icmp .ge 36, 3) := by decide +kernel
theorem dX10_hands_17 : decode cX10_hands 17 = .ok (.iload_n 2, 1) := by decide +kernel
theorem dX10_hands_18 : decode cX10_hands 18 = .ok (.iconst (-1), 1) := by decide +kernel
theorem dX10_hands_19 : decode cX10_hands 19 = .ok (.if_icmp .eq 14, 3) := by decide +kernel
theorem dX10_hands_22 : decode cX10_hands 22 = .ok (.iload_n 3, 1) := by decide +kernel
theorem dX10_hands_23 : decode cX10_hands 23 = .ok (.invokestatic 158, 3) := by decide +kernel
theorem dX10_hands_26 : decode cX10_hands 26 = .ok (.iload_n 2, 1) := by decide +kernel
theorem dX10_hands_27 : decode cX10_hands 27 = .ok (.invokestatic 158, 3) := by decide +kernel
theorem dX10_hands_30 : decode cX10_hands 30 = .ok (.if_icmp .ge 14, 3) := by decide +kernel
theorem dX10_hands_33 : decode cX10_hands 33 = .ok (.aload_n 0, 1) := by decide +kernel
theorem dX10_hands_34 : decode cX10_hands 34 = .ok (.iload_n 3, 1) := by decide +kernel
theorem dX10_hands_35 : decode cX10_hands 35 = .ok (.iload_n 1, 1) := by decide +kernel
theorem dX10_hands_36 : decode cX10_hands 36 = .ok (.invokevirtual 161, 3) := by decide +kernel
theorem dX10_hands_39 : decode cX10_hands 39 = .ok (.ifCond .eq 5, 3) := by decide +kernel
theorem dX10_hands_42 : decode cX10_hands 42 = .ok (.iload_n 3, 1) := by decide +kernel
theorem dX10_hands_43 : decode cX10_hands 43 = .ok (.istore_n 2, 1) := by decide +kernel
theorem dX10_hands_44 : decode cX10_hands 44 = .ok (.iinc 3 1, 3) := by decide +kernel
theorem dX10_hands_47 : decode cX10_hands 47 = .ok (.goto (-43), 3) := by decide +kernel
theorem dX10_hands_50 : decode cX10_hands 50 = .ok (.iload_n 2, 1) := by decide +kernel
theorem dX10_hands_51 : decode cX10_hands 51 = .ok (.ireturn, 1) := by decide +kernel
theorem dX10_of_0 : decode cX10_of 0 = .ok (.aload_n 0, 1) := by decide +kernel
theorem dX10_of_1 : decode cX10_of 1 = .ok (.iload_n 1, 1) := by decide +kernel
theorem dX10_of_2 : decode cX10_of 2 = .ok (.invokevirtual 135, 3) := by decide +kernel
theorem dX10_of_5 : decode cX10_of 5 = .ok (.ifCond .eq 13, 3) := by decide +kernel
theorem dX10_of_8 : decode cX10_of 8 = .ok (.iload_n 2, 1) := by decide +kernel
theorem dX10_of_9 : decode cX10_of 9 = .ok (.iconst 0, 1) := by decide +kernel
theorem dX10_of_10 : decode cX10_of 10 = .ok (.bipush 9, 2) := by decide +kernel
theorem dX10_of_12 : decode cX10_of 12 = .ok (.invokestatic 76, 3) := by decide +kernel
theorem dX10_of_15 : decode cX10_of 15 = .ok (.ifCond .ne 6, 3) := by decide +kernel
theorem dX10_of_18 : decode cX10_of 18 = .ok (.bipush (-2), 2) := by decide +kernel
theorem dX10_of_20 : decode cX10_of 20 = .ok (.ireturn, 1) := by decide +kernel
theorem dX10_of_21 : decode cX10_of 21 = .ok (.iload_n 2, 1) := by decide +kernel
theorem dX10_of_22 : decode cX10_of 22 = .ok (.bipush 7, 2) := by decide +kernel
theorem dX10_of_24 : decode cX10_of 24 = .ok (.if_icmp .ge 10, 3) := by decide +kernel
theorem dX10_of_27 : decode cX10_of 27 = .ok (.aload_n 0, 1) := by decide +kernel
theorem dX10_of_28 : decode cX10_of 28 = .ok (.iload_n 1, 1) := by decide +kernel
theorem dX10_of_29 : decode cX10_of 29 = .ok (.iload_n 2, 1) := by decide +kernel
theorem dX10_of_30 : decode cX10_of 30 = .ok (.invokevirtual 94, 3) := by decide +kernel
theorem dX10_of_33 : decode cX10_of 33 = .ok (.ireturn, 1) := by decide +kernel
theorem dX10_of_34 : decode cX10_of 34 = .ok (.iload_n 2, 1) := by decide +kernel
theorem dX10_of_35 : decode cX10_of 35 = .ok (.bipush 8, 2) := by decide +kernel
theorem dX10_of_37 : decode cX10_of 37 = .ok (.if_icmp .ne 9, 3) := by decide +kernel
theorem dX10_of_40 : decode cX10_of 40 = .ok (.aload_n 0, 1) := by decide +kernel
theorem dX10_of_41 : decode cX10_of 41 = .ok (.iload_n 1, 1) := by decide +kernel
theorem dX10_of_42 : decode cX10_of 42 = .ok (.invokevirtual 114, 3) := by decide +kernel
theorem dX10_of_45 : decode cX10_of 45 = .ok (.ireturn, 1) := by decide +kernel
theorem dX10_of_46 : decode cX10_of 46 = .ok (.iload_n 2, 1) := by decide +kernel
theorem dX10_of_47 : decode cX10_of 47 = .ok (.bipush 9, 2) := by decide +kernel
theorem dX10_of_49 : decode cX10_of 49 = .ok (.if_icmp .ne 14, 3) := by decide +kernel
theorem dX10_of_52 : decode cX10_of 52 = .ok (.aload_n 0, 1) := by decide +kernel
theorem dX10_of_53 : decode cX10_of 53 = .ok (.aload_n 0, 1) := by decide +kernel
theorem dX10_of_54 : decode cX10_of 54 = .ok (.iload_n 1, 1) := by decide +kernel
theorem dX10_of_55 : decode cX10_of 55 = .ok (.iconst 1, 1) := by decide +kernel
theorem dX10_of_56 : decode cX10_of 56 = .ok (.invokevirtual 94, 3) := by decide +kernel
theorem dX10_of_59 : decode cX10_of 59 = .ok (.invokevirtual 164, 3) := by decide +kernel
theorem dX10_of_62 : decode cX10_of 62 = .ok (.ireturn, 1) := by decide +kernel
theorem dX10_of_63 : decode cX10_of 63 = .ok (.aload_n 0, 1) := by decide +kernel
theorem dX10_of_64 : decode cX10_of 64 = .ok (.invokevirtual 138, 3) := by decide +kernel
theorem dX10_of_67 : decode cX10_of 67 = .ok (.aload_n 0, 1) := by decide +kernel
theorem dX10_of_68 : decode cX10_of 68 = .ok (.invokevirtual 111, 3) := by decide +kernel
theorem dX10_of_71 : decode cX10_of 71 = .ok (.aload_n 0, 1) := by decide +kernel
theorem dX10_of_72 : decode cX10_of 72 = .ok (.getfield 29, 3) := by decide +kernel
theorem dX10_of_75 : decode cX10_of 75 = .ok (.iload_n 1, 1) := by decide +kernel
theorem dX10_of_76 : decode cX10_of 76 = .ok (.iaload, 1) := by decide +kernel
theorem dX10_of_77 : decode cX10_of 77 = .ok (.ireturn, 1) := by decide +kernel
theorem dX10_height_0 : decode cX10_height 0 = .ok (.iload_n 1, 1) := by decide +kernel
theorem dX10_height_1 : decode cX10_height 1 = .ok (.iconst (-1), 1) := by decide +kernel
theorem dX10_height_2 : decode cX10_height 2 = .ok (.aload_n 0, 1) := by decide +kernel
theorem dX10_height_3 : decode cX10_height 3 = .ok (.getfield 7, 3) := by decide +kernel
theorem dX10_height_6 : decode cX10_height 6 = .ok (.iconst 0, 1) := by decide +kernel
theorem dX10_height_7 : decode cX10_height 7 = .ok (.iaload, 1) := by decide +kernel
theorem dX10_height_8 : decode cX10_height 8 = .ok (.iconst 1, 1) := by decide +kernel
theorem dX10_height_9 : decode cX10_height 9 = .ok (.isub, 1) := by decide +kernel
theorem dX10_height_10 : decode cX10_height 10 = .ok (.invokestatic 76, 3) := by decide +kernel
theorem dX10_height_13 : decode cX10_height 13 = .ok (.ifCond .ne 6, 3) := by decide +kernel
theorem dX10_height_16 : decode cX10_height 16 = .ok (.bipush (-2), 2) := by decide +kernel
theorem dX10_height_18 : decode cX10_height 18 = .ok (.ireturn, 1) := by decide +kernel
theorem dX10_height_19 : decode cX10_height 19 = .ok (.aload_n 0, 1) := by decide +kernel
theorem dX10_height_20 : decode cX10_height 20 = .ok (.invokevirtual 138, 3) := by decide +kernel
theorem dX10_height_23 : decode cX10_height 23 = .ok (.iload_n 1, 1) := by decide +kernel
theorem dX10_height_24 : decode cX10_height 24 = .ok (.iconst (-1), 1) := by decide +kernel
theorem dX10_height_25 : decode cX10_height 25 = .ok (.if_icmp .ne 10, 3) := by decide +kernel
theorem dX10_height_28 : decode cX10_height 28 = .ok (.aload_n 0, 1) := by decide +kernel
theorem dX10_height_29 : decode cX10_height 29 = .ok (.invokevirtual 167, 3) := by decide +kernel
theorem dX10_height_32 : decode cX10_height 32 = .ok (.goto 8, 3) := by decide +kernel
theorem dX10_height_35 : decode cX10_height 35 = .ok (.aload_n 0, 1) := by decide +kernel
theorem dX10_height_36 : decode cX10_height 36 = .ok (.iload_n 1, 1) := by decide +kernel
theorem dX10_height_37 : decode cX10_height 37 = .ok (.invokevirtual 100, 3) := by decide +kernel
theorem dX10_height_40 : decode cX10_height 40 = .ok (.ireturn, 1) := by decide +kernel
theorem dX10_feed_0 : decode cX10_feed 0 = .ok (.aload_n 0, 1) := by decide +kernel
theorem dX10_feed_1 : decode cX10_feed 1 = .ok (.getfield 170, 3) := by decide +kernel
theorem dX10_feed_4 : decode cX10_feed 4 = .ok (.bipush 20, 2) := by decide +kernel
theorem dX10_feed_6 : decode cX10_feed 6 = .ok (.iadd, 1) := by decide +kernel
theorem dX10_feed_7 : decode cX10_feed 7 = .ok (.sipush 400, 3) := by decide +kernel
theorem dX10_feed_10 : decode cX10_feed 10 = .ok (.if_icmp .le 5, 3) := by decide +kernel
theorem dX10_feed_13 : decode cX10_feed 13 = .ok (.iconst (-1), 1) := by decide +kernel
theorem dX10_feed_14 : decode cX10_feed 14 = .ok (.ireturn, 1) := by decide +kernel
theorem dX10_feed_15 : decode cX10_feed 15 = .ok (.iconst 0, 1) := by decide +kernel
theorem dX10_feed_16 : decode cX10_feed 16 = .ok (.istore 6, 2) := by decide +kernel
theorem dX10_feed_18 : decode cX10_feed 18 = .ok (.iload 6, 2) := by decide +kernel
theorem dX10_feed_20 : decode cX10_feed 20 = .ok (.bipush 20, 2) := by decide +kernel
theorem dX10_feed_22 : decode cX10_feed 22 = .ok (.if_icmp .ge 93, 3) := by decide +kernel
theorem dX10_feed_25 : decode cX10_feed 25 = .ok (.iload 6, 2) := by decide +kernel
theorem dX10_feed_27 : decode cX10_feed 27 = .ok (.iconst 4, 1) := by decide +kernel
theorem dX10_feed_28 : decode cX10_feed 28 = .ok (.if_icmp .ge 7, 3) := by decide +kernel
theorem dX10_feed_31 : decode cX10_feed 31 = .ok (.iload_n 1, 1) := by decide +kernel
theorem dX10_feed_32 : decode cX10_feed 32 = .ok (.goto 39, 3) := by decide +kernel
theorem dX10_feed_35 : decode cX10_feed 35 = .ok (.iload 6, 2) := by decide +kernel
theorem dX10_feed_37 : decode cX10_feed 37 = .ok (.bipush 8, 2) := by decide +kernel
theorem dX10_feed_39 : decode cX10_feed 39 = .ok (.if_icmp .ge 7, 3) := by decide +kernel
theorem dX10_feed_42 : decode cX10_feed 42 = .ok (.iload_n 2, 1) := by decide +kernel
theorem dX10_feed_43 : decode cX10_feed 43 = .ok (.goto 28, 3) := by decide +kernel
theorem dX10_feed_46 : decode cX10_feed 46 = .ok (.iload 6, 2) := by decide +kernel
theorem dX10_feed_48 : decode cX10_feed 48 = .ok (.bipush 12, 2) := by decide +kernel
theorem dX10_feed_50 : decode cX10_feed 50 = .ok (.if_icmp .ge 7, 3) := by decide +kernel
theorem dX10_feed_53 : decode cX10_feed 53 = .ok (.iload_n 3, 1) := by decide +kernel
theorem dX10_feed_54 : decode cX10_feed 54 = .ok (.goto 17, 3) := by decide +kernel
theorem dX10_feed_57 : decode cX10_feed 57 = .ok (.iload 6, 2) := by decide +kernel
theorem dX10_feed_59 : decode cX10_feed 59 = .ok (.bipush 16, 2) := by decide +kernel
theorem dX10_feed_61 : decode cX10_feed 61 = .ok (.if_icmp .ge 8, 3) := by decide +kernel
theorem dX10_feed_64 : decode cX10_feed 64 = .ok (.iload 4, 2) := by decide +kernel
theorem dX10_feed_66 : decode cX10_feed 66 = .ok (.goto 5, 3) := by decide +kernel
theorem dX10_feed_69 : decode cX10_feed 69 = .ok (.iload 5, 2) := by decide +kernel
theorem dX10_feed_71 : decode cX10_feed 71 = .ok (.istore 7, 2) := by decide +kernel
theorem dX10_feed_73 : decode cX10_feed 73 = .ok (.aload_n 0, 1) := by decide +kernel
theorem dX10_feed_74 : decode cX10_feed 74 = .ok (.getfield 43, 3) := by decide +kernel
theorem dX10_feed_77 : decode cX10_feed 77 = .ok (.aload_n 0, 1) := by decide +kernel
theorem dX10_feed_78 : decode cX10_feed 78 = .ok (.getfield 170, 3) := by decide +kernel
theorem dX10_feed_81 : decode cX10_feed 81 = .ok (.iload 7, 2) := by decide +kernel
theorem dX10_feed_83 : decode cX10_feed 83 = .ok (.bipush 24, 2) := by decide +kernel
theorem dX10_feed_85 : decode cX10_feed 85 = .ok (.bipush 8, 2) := by decide +kernel
theorem dX10_feed_87 : decode cX10_feed 87 = .ok (.iload 6, 2) := by decide +kernel
theorem dX10_feed_89 : decode cX10_feed 89 = .ok (.iconst 4, 1) := by decide +kernel
theorem dX10_feed_90 : decode cX10_feed 90 = .ok (.irem, 1) := by decide +kernel
theorem dX10_feed_91 : decode cX10_feed 91 = .ok (.imul, 1) := by decide +kernel
theorem dX10_feed_92 : decode cX10_feed 92 = .ok (.isub, 1) := by decide +kernel
theorem dX10_feed_93 : decode cX10_feed 93 = .ok (.ishr, 1) := by decide +kernel
theorem dX10_feed_94 : decode cX10_feed 94 = .ok (.sipush 255, 3) := by decide +kernel
theorem dX10_feed_97 : decode cX10_feed 97 = .ok (.iand, 1) := by decide +kernel
theorem dX10_feed_98 : decode cX10_feed 98 = .ok (.iastore, 1) := by decide +kernel
theorem dX10_feed_99 : decode cX10_feed 99 = .ok (.aload_n 0, 1) := by decide +kernel
theorem dX10_feed_100 : decode cX10_feed 100 = .ok (.dup, 1) := by decide +kernel
theorem dX10_feed_101 : decode cX10_feed 101 = .ok (.getfield 170, 3) := by decide +kernel
theorem dX10_feed_104 : decode cX10_feed 104 = .ok (.iconst 1, 1) := by decide +kernel
theorem dX10_feed_105 : decode cX10_feed 105 = .ok (.iadd, 1) := by decide +kernel
theorem dX10_feed_106 : decode cX10_feed 106 = .ok (.putfield 170, 3) := by decide +kernel
theorem dX10_feed_109 : decode cX10_feed 109 = .ok (.iinc 6 1, 3) := by decide +kernel
theorem dX10_feed_112 : decode cX10_feed 112 = .ok (.goto (-94), 3) := by decide +kernel
theorem dX10_feed_115 : decode cX10_feed 115 = .ok (.aload_n 0, 1) := by decide +kernel
theorem dX10_feed_116 : decode cX10_feed 116 = .ok (.getfield 170, 3) := by decide +kernel
theorem dX10_feed_119 : decode cX10_feed 119 = .ok (.ireturn, 1) := by decide +kernel
theorem dX10_end_0 : decode cX10_end 0 = .ok (.iload_n 1, 1) := by decide +kernel
theorem dX10_end_1 : decode cX10_end 1 = .ok (.iconst 0, 1) := by decide +kernel
theorem dX10_end_2 : decode cX10_end 2 = .ok (.aload_n 0, 1) := by decide +kernel
theorem dX10_end_3 : decode cX10_end 3 = .ok (.getfield 170, 3) := by decide +kernel
theorem dX10_end_6 : decode cX10_end 6 = .ok (.invokestatic 76, 3) := by decide +kernel
theorem dX10_end_9 : decode cX10_end 9 = .ok (.ifCond .ne 5, 3) := by decide +kernel
theorem dX10_end_12 : decode cX10_end 12 = .ok (.iconst 0, 1) := by decide +kernel
theorem dX10_end_13 : decode cX10_end 13 = .ok (.ireturn, 1) := by decide +kernel
theorem dX10_end_14 : decode cX10_end 14 = .ok (.aload_n 0, 1) := by decide +kernel
theorem dX10_end_15 : decode cX10_end 15 = .ok (.iload_n 1, 1) := by decide +kernel
theorem dX10_end_16 : decode cX10_end 16 = .ok (.putfield 170, 3) := by decide +kernel
theorem dX10_end_19 : decode cX10_end 19 = .ok (.iconst 1, 1) := by decide +kernel
theorem dX10_end_20 : decode cX10_end 20 = .ok (.ireturn, 1) := by decide +kernel
theorem dX10_see_0 : decode cX10_see 0 = .ok (.iload_n 1, 1) := by decide +kernel
theorem dX10_see_1 : decode cX10_see 1 = .ok (.aload_n 0, 1) := by decide +kernel
theorem dX10_see_2 : decode cX10_see 2 = .ok (.getfield 170, 3) := by decide +kernel
theorem dX10_see_5 : decode cX10_see 5 = .ok (.if_icmp .ge 12, 3) := by decide +kernel
theorem dX10_see_8 : decode cX10_see 8 = .ok (.aload_n 0, 1) := by decide +kernel
theorem dX10_see_9 : decode cX10_see 9 = .ok (.getfield 43, 3) := by decide +kernel
theorem dX10_see_12 : decode cX10_see 12 = .ok (.iload_n 1, 1) := by decide +kernel
theorem dX10_see_13 : decode cX10_see 13 = .ok (.iaload, 1) := by decide +kernel
theorem dX10_see_14 : decode cX10_see 14 = .ok (.goto 4, 3) := by decide +kernel
theorem dX10_see_17 : decode cX10_see 17 = .ok (.iconst (-1), 1) := by decide +kernel
theorem dX10_see_18 : decode cX10_see 18 = .ok (.ireturn, 1) := by decide +kernel
theorem dX10_isLetter_0 : decode cX10_isLetter 0 = .ok (.iload_n 0, 1) := by decide +kernel
theorem dX10_isLetter_1 : decode cX10_isLetter 1 = .ok (.bipush 97, 2) := by decide +kernel
theorem dX10_isLetter_3 : decode cX10_isLetter 3 = .ok (.bipush 122, 2) := by decide +kernel
theorem dX10_isLetter_5 : decode cX10_isLetter 5 = .ok (.invokestatic 76, 3) := by decide +kernel
theorem dX10_isLetter_8 : decode cX10_isLetter 8 = .ok (.ifCond .ne 14, 3) := by decide +kernel
theorem dX10_isLetter_11 : decode cX10_isLetter 11 = .ok (.iload_n 0, 1) := by decide +kernel
theorem dX10_isLetter_12 : decode cX10_isLetter 12 = .ok (.bipush 65, 2) := by decide +kernel
theorem dX10_isLetter_14 : decode cX10_isLetter 14 = .ok (.bipush 90, 2) := by decide +kernel
theorem dX10_isLetter_16 : decode cX10_isLetter 16 = .ok (.invokestatic 76, 3) := by decide +kernel
theorem dX10_isLetter_19 : decode cX10_isLetter 19 = .ok (.ifCond .eq 7, 3) := by decide +kernel
theorem dX10_isLetter_22 : decode cX10_isLetter 22 = .ok (.iconst 1, 1) := by decide +kernel
theorem dX10_isLetter_23 : decode cX10_isLetter 23 = .ok (.goto 4, 3) := by decide +kernel
theorem dX10_isLetter_26 : decode cX10_isLetter 26 = .ok (.iconst 0, 1) := by decide +kernel
theorem dX10_isLetter_27 : decode cX10_isLetter 27 = .ok (.ireturn, 1) := by decide +kernel
theorem dX10_isDigit_0 : decode cX10_isDigit 0 = .ok (.iload_n 0, 1) := by decide +kernel
theorem dX10_isDigit_1 : decode cX10_isDigit 1 = .ok (.bipush 48, 2) := by decide +kernel
theorem dX10_isDigit_3 : decode cX10_isDigit 3 = .ok (.bipush 57, 2) := by decide +kernel
theorem dX10_isDigit_5 : decode cX10_isDigit 5 = .ok (.invokestatic 76, 3) := by decide +kernel
theorem dX10_isDigit_8 : decode cX10_isDigit 8 = .ok (.ireturn, 1) := by decide +kernel
theorem dX10_is_0 : decode cX10_is 0 = .ok (.aload_n 0, 1) := by decide +kernel
theorem dX10_is_1 : decode cX10_is 1 = .ok (.getfield 173, 3) := by decide +kernel
theorem dX10_is_4 : decode cX10_is 4 = .ok (.aload_n 0, 1) := by decide +kernel
theorem dX10_is_5 : decode cX10_is 5 = .ok (.getfield 176, 3) := by decide +kernel
theorem dX10_is_8 : decode cX10_is 8 = .ok (.isub, 1) := by decide +kernel
theorem dX10_is_9 : decode cX10_is 9 = .ok (.aload_n 1, 1) := by decide +kernel
theorem dX10_is_10 : decode cX10_is 10 = .ok (.invokevirtual 179, 3) := by decide +kernel
theorem dX10_is_13 : decode cX10_is 13 = .ok (.if_icmp .ne 7, 3) := by decide +kernel
theorem dX10_is_16 : decode cX10_is 16 = .ok (.iconst 1, 1) := by decide +kernel
theorem dX10_is_17 : decode cX10_is 17 = .ok (.goto 4, 3) := by decide +kernel
theorem dX10_is_20 : decode cX10_is 20 = .ok (.iconst 0, 1) := by decide +kernel
theorem dX10_is_21 : decode cX10_is 21 = .ok (.istore_n 2, 1) := by decide +kernel
theorem dX10_is_22 : decode cX10_is 22 = .ok (.iconst 0, 1) := by decide +kernel
theorem dX10_is_23 : decode cX10_is 23 = .ok (.istore_n 3, 1) := by decide +kernel
theorem dX10_is_24 : decode cX10_is 24 = .ok (.iload_n 3, 1) := by decide +kernel
theorem dX10_is_25 : decode cX10_is 25 = .ok (.aload_n 1, 1) := by decide +kernel
theorem dX10_is_26 : decode cX10_is 26 = .ok (.invokevirtual 179, 3) := by decide +kernel
theorem dX10_is_29 : decode cX10_is 29 = .ok (.if_icmp .ge 38, 3) := by decide +kernel
theorem dX10_is_32 : decode cX10_is 32 = .ok (.iload_n 2, 1) := by decide +kernel
theorem dX10_is_33 : decode cX10_is 33 = .ok (.ifCond .eq 34, 3) := by decide +kernel
theorem dX10_is_36 : decode cX10_is 36 = .ok (.aload_n 0, 1) := by decide +kernel
theorem dX10_is_37 : decode cX10_is 37 = .ok (.getfield 43, 3) := by decide +kernel
theorem dX10_is_40 : decode cX10_is 40 = .ok (.aload_n 0, 1) := by decide +kernel
theorem dX10_is_41 : decode cX10_is 41 = .ok (.getfield 176, 3) := by decide +kernel
theorem dX10_is_44 : decode cX10_is 44 = .ok (.iload_n 3, 1) := by decide +kernel
theorem dX10_is_45 : decode cX10_is 45 = .ok (.iadd, 1) := by decide +kernel
theorem dX10_is_46 : decode cX10_is 46 = .ok (.iaload, 1) := by decide +kernel
theorem dX10_is_47 : decode cX10_is 47 = .ok (.aload_n 1, 1) := by decide +kernel
theorem dX10_is_48 : decode cX10_is 48 = .ok (.iload_n 3, 1) := by decide +kernel
theorem dX10_is_49 : decode cX10_is 49 = .ok (.invokevirtual 184, 3) := by decide +kernel
theorem dX10_is_52 : decode cX10_is 52 = .ok (.if_icmp .ne 7, 3) := by decide +kernel
theorem dX10_is_55 : decode cX10_is 55 = .ok (.iconst 1, 1) := by decide +kernel
theorem dX10_is_56 : decode cX10_is 56 = .ok (.goto 4, 3) := by decide +kernel
theorem dX10_is_59 : decode cX10_is 59 = .ok (.iconst 0, 1) := by decide +kernel
theorem dX10_is_60 : decode cX10_is 60 = .ok (.istore_n 2, 1) := by decide +kernel
theorem dX10_is_61 : decode cX10_is 61 = .ok (.iinc 3 1, 3) := by decide +kernel
theorem dX10_is_64 : decode cX10_is 64 = .ok (.goto (-40), 3) := by decide +kernel
theorem dX10_is_67 : decode cX10_is 67 = .ok (.iload_n 2, 1) := by decide +kernel
theorem dX10_is_68 : decode cX10_is 68 = .ok (.ireturn, 1) := by decide +kernel
theorem dX10_nameWord_0 : decode cX10_nameWord 0 = .ok (.aload_n 0, 1) := by decide +kernel
theorem dX10_nameWord_1 : decode cX10_nameWord 1 = .ok (.ldc 188, 2) := by decide +kernel
theorem dX10_nameWord_3 : decode cX10_nameWord 3 = .ok (.invokevirtual 190, 3) := by decide +kernel
theorem dX10_nameWord_6 : decode cX10_nameWord 6 = .ok (.ifCond .eq 6, 3) := by decide +kernel
theorem dX10_nameWord_9 : decode cX10_nameWord 9 = .ok (.bipush 41, 2) := by decide +kernel
theorem dX10_nameWord_11 : decode cX10_nameWord 11 = .ok (.ireturn, 1) := by decide +kernel
theorem dX10_nameWord_12 : decode cX10_nameWord 12 = .ok (.aload_n 0, 1) := by decide +kernel
theorem dX10_nameWord_13 : decode cX10_nameWord 13 = .ok (.ldc 194, 2) := by decide +kernel
theorem dX10_nameWord_15 : decode cX10_nameWord 15 = .ok (.invokevirtual 190, 3) := by decide +kernel
theorem dX10_nameWord_18 : decode cX10_nameWord 18 = .ok (.ifCond .eq 6, 3) := by decide +kernel
theorem dX10_nameWord_21 : decode cX10_nameWord 21 = .ok (.bipush 42, 2) := by decide +kernel
theorem dX10_nameWord_23 : decode cX10_nameWord 23 = .ok (.ireturn, 1) := by decide +kernel
theorem dX10_nameWord_24 : decode cX10_nameWord 24 = .ok (.aload_n 0, 1) := by decide +kernel
theorem dX10_nameWord_25 : decode cX10_nameWord 25 = .ok (.ldc 196, 2) := by decide +kernel
theorem dX10_nameWord_27 : decode cX10_nameWord 27 = .ok (.invokevirtual 190, 3) := by decide +kernel
theorem dX10_nameWord_30 : decode cX10_nameWord 30 = .ok (.ifCond .eq 6, 3) := by decide +kernel
theorem dX10_nameWord_33 : decode cX10_nameWord 33 = .ok (.bipush 43, 2) := by decide +kernel
theorem dX10_nameWord_35 : decode cX10_nameWord 35 = .ok (.ireturn, 1) := by decide +kernel
theorem dX10_nameWord_36 : decode cX10_nameWord 36 = .ok (.aload_n 0, 1) := by decide +kernel
theorem dX10_nameWord_37 : decode cX10_nameWord 37 = .ok (.ldc 197, 2) := by decide +kernel
theorem dX10_nameWord_39 : decode cX10_nameWord 39 = .ok (.invokevirtual 190, 3) := by decide +kernel
theorem dX10_nameWord_42 : decode cX10_nameWord 42 = .ok (.ifCond .eq 6, 3) := by decide +kernel
theorem dX10_nameWord_45 : decode cX10_nameWord 45 = .ok (.bipush 44, 2) := by decide +kernel
theorem dX10_nameWord_47 : decode cX10_nameWord 47 = .ok (.ireturn, 1) := by decide +kernel
theorem dX10_nameWord_48 : decode cX10_nameWord 48 = .ok (.aload_n 0, 1) := by decide +kernel
theorem dX10_nameWord_49 : decode cX10_nameWord 49 = .ok (.ldc 199, 2) := by decide +kernel
theorem dX10_nameWord_51 : decode cX10_nameWord 51 = .ok (.invokevirtual 190, 3) := by decide +kernel
theorem dX10_nameWord_54 : decode cX10_nameWord 54 = .ok (.ifCond .eq 6, 3) := by decide +kernel
theorem dX10_nameWord_57 : decode cX10_nameWord 57 = .ok (.bipush 45, 2) := by decide +kernel
theorem dX10_nameWord_59 : decode cX10_nameWord 59 = .ok (.ireturn, 1) := by decide +kernel
theorem dX10_nameWord_60 : decode cX10_nameWord 60 = .ok (.aload_n 0, 1) := by decide +kernel
theorem dX10_nameWord_61 : decode cX10_nameWord 61 = .ok (.ldc 201, 2) := by decide +kernel
theorem dX10_nameWord_63 : decode cX10_nameWord 63 = .ok (.invokevirtual 190, 3) := by decide +kernel
theorem dX10_nameWord_66 : decode cX10_nameWord 66 = .ok (.ifCond .eq 6, 3) := by decide +kernel
theorem dX10_nameWord_69 : decode cX10_nameWord 69 = .ok (.bipush 46, 2) := by decide +kernel
theorem dX10_nameWord_71 : decode cX10_nameWord 71 = .ok (.ireturn, 1) := by decide +kernel
theorem dX10_nameWord_72 : decode cX10_nameWord 72 = .ok (.aload_n 0, 1) := by decide +kernel
theorem dX10_nameWord_73 : decode cX10_nameWord 73 = .ok (.ldc 203, 2) := by decide +kernel
theorem dX10_nameWord_75 : decode cX10_nameWord 75 = .ok (.invokevirtual 190, 3) := by decide +kernel
theorem dX10_nameWord_78 : decode cX10_nameWord 78 = .ok (.ifCond .eq 8, 3) := by decide +kernel
theorem dX10_nameWord_81 : decode cX10_nameWord 81 = .ok (.bipush 47, 2) := by decide +kernel
theorem dX10_nameWord_83 : decode cX10_nameWord 83 = .ok (.goto 4, 3) := by decide +kernel
theorem dX10_nameWord_86 : decode cX10_nameWord 86 = .ok (.iconst 1, 1) := by decide +kernel
theorem dX10_nameWord_87 : decode cX10_nameWord 87 = .ok (.ireturn, 1) := by decide +kernel
theorem dX10_word_0 : decode cX10_word 0 = .ok (.aload_n 0, 1) := by decide +kernel
theorem dX10_word_1 : decode cX10_word 1 = .ok (.ldc 205, 2) := by decide +kernel
theorem dX10_word_3 : decode cX10_word 3 = .ok (.invokevirtual 190, 3) := by decide +kernel
theorem dX10_word_6 : decode cX10_word 6 = .ok (.ifCond .eq 5, 3) := by decide +kernel
theorem dX10_word_9 : decode cX10_word 9 = .ok (.iconst 4, 1) := by decide +kernel
theorem dX10_word_10 : decode cX10_word 10 = .ok (.ireturn, 1) := by decide +kernel
theorem dX10_word_11 : decode cX10_word 11 = .ok (.aload_n 0, 1) := by decide +kernel
theorem dX10_word_12 : decode cX10_word 12 = .ok (.ldc 207, 2) := by decide +kernel
theorem dX10_word_14 : decode cX10_word 14 = .ok (.invokevirtual 190, 3) := by decide +kernel
theorem dX10_word_17 : decode cX10_word 17 = .ok (.ifCond .eq 5, 3) := by decide +kernel
theorem dX10_word_20 : decode cX10_word 20 = .ok (.iconst 5, 1) := by decide +kernel
theorem dX10_word_21 : decode cX10_word 21 = .ok (.ireturn, 1) := by decide +kernel
theorem dX10_word_22 : decode cX10_word 22 = .ok (.aload_n 0, 1) := by decide +kernel
theorem dX10_word_23 : decode cX10_word 23 = .ok (.ldc 209, 2) := by decide +kernel
theorem dX10_word_25 : decode cX10_word 25 = .ok (.invokevirtual 190, 3) := by decide +kernel
theorem dX10_word_28 : decode cX10_word 28 = .ok (.ifCond .eq 6, 3) := by decide +kernel
theorem dX10_word_31 : decode cX10_word 31 = .ok (.bipush 6, 2) := by decide +kernel
theorem dX10_word_33 : decode cX10_word 33 = .ok (.ireturn, 1) := by decide +kernel
theorem dX10_word_34 : decode cX10_word 34 = .ok (.aload_n 0, 1) := by decide +kernel
theorem dX10_word_35 : decode cX10_word 35 = .ok (.ldc 211, 2) := by decide +kernel
theorem dX10_word_37 : decode cX10_word 37 = .ok (.invokevirtual 190, 3) := by decide +kernel
theorem dX10_word_40 : decode cX10_word 40 = .ok (.ifCond .eq 6, 3) := by decide +kernel
theorem dX10_word_43 : decode cX10_word 43 = .ok (.bipush 20, 2) := by decide +kernel
theorem dX10_word_45 : decode cX10_word 45 = .ok (.ireturn, 1) := by decide +kernel
theorem dX10_word_46 : decode cX10_word 46 = .ok (.aload_n 0, 1) := by decide +kernel
theorem dX10_word_47 : decode cX10_word 47 = .ok (.ldc 213, 2) := by decide +kernel
theorem dX10_word_49 : decode cX10_word 49 = .ok (.invokevirtual 190, 3) := by decide +kernel
theorem dX10_word_52 : decode cX10_word 52 = .ok (.ifCond .eq 8, 3) := by decide +kernel
theorem dX10_word_55 : decode cX10_word 55 = .ok (.bipush 21, 2) := by decide +kernel
theorem dX10_word_57 : decode cX10_word 57 = .ok (.goto 7, 3) := by decide +kernel
theorem dX10_word_60 : decode cX10_word 60 = .ok (.aload_n 0, 1) := by decide +kernel
theorem dX10_word_61 : decode cX10_word 61 = .ok (.invokevirtual 215, 3) := by decide +kernel
theorem dX10_word_64 : decode cX10_word 64 = .ok (.ireturn, 1) := by decide +kernel
