theorem dX9_block_0 : decode cX9_block 0 = .ok (.aload_n 0, 1) := by decide +kernel
theorem dX9_block_1 : decode cX9_block 1 = .ok (.getfield 10, 3) := by decide +kernel
theorem dX9_block_4 : decode cX9_block 4 = .ok (.getfield 79, 3) := by decide +kernel
theorem dX9_block_7 : decode cX9_block 7 = .ok (.astore 6, 2) := by decide +kernel
theorem dX9_block_9 : decode cX9_block 9 = .ok (.iload_n 1, 1) := by decide +kernel
theorem dX9_block_10 : decode cX9_block 10 = .ok (.iconst 1, 1) := by decide +kernel
theorem dX9_block_11 : decode cX9_block 11 = .ok (.if_icmp .lt 33, 3) := by decide +kernel
theorem dX9_block_14 : decode cX9_block 14 = .ok (.iload_n 1, 1) := by decide +kernel
theorem dX9_block_15 : decode cX9_block 15 = .ok (.iconst 3, 1) := by decide +kernel
theorem dX9_block_16 : decode cX9_block 16 = .ok (.if_icmp .gt 28, 3) := by decide +kernel
theorem dX9_block_19 : decode cX9_block 19 = .ok (.iload_n 1, 1) := by decide +kernel
theorem dX9_block_20 : decode cX9_block 20 = .ok (.aload 6, 2) := by decide +kernel
theorem dX9_block_22 : decode cX9_block 22 = .ok (.getfield 82, 3) := by decide +kernel
theorem dX9_block_25 : decode cX9_block 25 = .ok (.if_icmp .gt 19, 3) := by decide +kernel
theorem dX9_block_28 : decode cX9_block 28 = .ok (.iload 4, 2) := by decide +kernel
theorem dX9_block_30 : decode cX9_block 30 = .ok (.ifCond .lt 14, 3) := by decide +kernel
theorem dX9_block_33 : decode cX9_block 33 = .ok (.iload 4, 2) := by decide +kernel
theorem dX9_block_35 : decode cX9_block 35 = .ok (.bipush 7, 2) := by decide +kernel
theorem dX9_block_37 : decode cX9_block 37 = .ok (.if_icmp .gt 7, 3) := by decide +kernel
theorem dX9_block_40 : decode cX9_block 40 = .ok (.iconst 1, 1) := by decide +kernel
theorem dX9_block_41 : decode cX9_block 41 = .ok (.goto 4, 3) := by decide +kernel
theorem dX9_block_44 : decode cX9_block 44 = .ok (.iconst 0, 1) := by decide +kernel
theorem dX9_block_45 : decode cX9_block 45 = .ok (.istore 7, 2) := by decide +kernel
theorem dX9_block_47 : decode cX9_block 47 = .ok (.iload_n 2, 1) := by decide +kernel
theorem dX9_block_48 : decode cX9_block 48 = .ok (.iconst 1, 1) := by decide +kernel
theorem dX9_block_49 : decode cX9_block 49 = .ok (.if_icmp .lt 24, 3) := by decide +kernel
theorem dX9_block_52 : decode cX9_block 52 = .ok (.iload_n 2, 1) := by decide +kernel
theorem dX9_block_53 : decode cX9_block 53 = .ok (.bipush 99, 2) := by decide +kernel
theorem dX9_block_55 : decode cX9_block 55 = .ok (.if_icmp .gt 18, 3) := by decide +kernel
theorem dX9_block_58 : decode cX9_block 58 = .ok (.iload_n 3, 1) := by decide +kernel
theorem dX9_block_59 : decode cX9_block 59 = .ok (.ifCond .lt 14, 3) := by decide +kernel
theorem dX9_block_62 : decode cX9_block 62 = .ok (.iload_n 3, 1) := by decide +kernel
theorem dX9_block_63 : decode cX9_block 63 = .ok (.sipush 999, 3) := by decide +kernel
theorem dX9_block_66 : decode cX9_block 66 = .ok (.if_icmp .gt 7, 3) := by decide +kernel
theorem dX9_block_69 : decode cX9_block 69 = .ok (.iconst 1, 1) := by decide +kernel
theorem dX9_block_70 : decode cX9_block 70 = .ok (.goto 4, 3) := by decide +kernel
theorem dX9_block_73 : decode cX9_block 73 = .ok (.iconst 0, 1) := by decide +kernel
theorem dX9_block_74 : decode cX9_block 74 = .ok (.istore 8, 2) := by decide +kernel
theorem dX9_block_76 : decode cX9_block 76 = .ok (.iload 7, 2) := by decide +kernel
theorem dX9_block_78 : decode cX9_block 78 = .ok (.ifCond .eq 26, 3) := by decide +kernel
theorem dX9_block_81 : decode cX9_block 81 = .ok (.iload 8, 2) := by decide +kernel
theorem dX9_block_83 : decode cX9_block 83 = .ok (.ifCond .eq 21, 3) := by decide +kernel
theorem dX9_block_86 : decode cX9_block 86 = .ok (.iload 5, 2) := by decide +kernel
theorem dX9_block_88 : decode cX9_block 88 = .ok (.invokestatic 85, 3) := by decide +kernel
theorem dX9_block_91 : decode cX9_block 91 = .ok (.ifCond .eq 13, 3) := by decide +kernel
theorem dX9_block_94 : decode cX9_block 94 = .ok (.aload 6, 2) := by decide +kernel
theorem dX9_block_96 : decode cX9_block 96 = .ok (.getfield 89, 3) := by decide +kernel
theorem dX9_block_99 : decode cX9_block 99 = .ok (.bipush 20, 2) := by decide +kernel
theorem dX9_block_101 : decode cX9_block 101 = .ok (.if_icmp .lt 5, 3) := by decide +kernel
theorem dX9_block_104 : decode cX9_block 104 = .ok (.iconst (-1), 1) := by decide +kernel
theorem dX9_block_105 : decode cX9_block 105 = .ok (.ireturn, 1) := by decide +kernel
theorem dX9_block_106 : decode cX9_block 106 = .ok (.aload_n 0, 1) := by decide +kernel
theorem dX9_block_107 : decode cX9_block 107 = .ok (.getfield 26, 3) := by decide +kernel
theorem dX9_block_110 : decode cX9_block 110 = .ok (.invokevirtual 76, 3) := by decide +kernel
theorem dX9_block_113 : decode cX9_block 113 = .ok (.aload 6, 2) := by decide +kernel
theorem dX9_block_115 : decode cX9_block 115 = .ok (.iload_n 1, 1) := by decide +kernel
theorem dX9_block_116 : decode cX9_block 116 = .ok (.iload_n 2, 1) := by decide +kernel
theorem dX9_block_117 : decode cX9_block 117 = .ok (.iload_n 3, 1) := by decide +kernel
theorem dX9_block_118 : decode cX9_block 118 = .ok (.iload 4, 2) := by decide +kernel
theorem dX9_block_120 : decode cX9_block 120 = .ok (.iload 5, 2) := by decide +kernel
theorem dX9_block_122 : decode cX9_block 122 = .ok (.invokevirtual 92, 3) := by decide +kernel
theorem dX9_block_125 : decode cX9_block 125 = .ok (.ireturn, 1) := by decide +kernel
theorem dX9_put_0 : decode cX9_put 0 = .ok (.aload_n 0, 1) := by decide +kernel
theorem dX9_put_1 : decode cX9_put 1 = .ok (.getfield 10, 3) := by decide +kernel
theorem dX9_put_4 : decode cX9_put 4 = .ok (.getfield 79, 3) := by decide +kernel
theorem dX9_put_7 : decode cX9_put 7 = .ok (.astore_n 3, 1) := by decide +kernel
theorem dX9_put_8 : decode cX9_put 8 = .ok (.aload_n 3, 1) := by decide +kernel
theorem dX9_put_9 : decode cX9_put 9 = .ok (.iload_n 1, 1) := by decide +kernel
theorem dX9_put_10 : decode cX9_put 10 = .ok (.invokevirtual 96, 3) := by decide +kernel
theorem dX9_put_13 : decode cX9_put 13 = .ok (.ifCond .eq 12, 3) := by decide +kernel
theorem dX9_put_16 : decode cX9_put 16 = .ok (.aload_n 3, 1) := by decide +kernel
theorem dX9_put_17 : decode cX9_put 17 = .ok (.iload_n 1, 1) := by decide +kernel
theorem dX9_put_18 : decode cX9_put 18 = .ok (.iload_n 2, 1) := by decide +kernel
theorem dX9_put_19 : decode cX9_put 19 = .ok (.invokevirtual 99, 3) := by decide +kernel
theorem dX9_put_22 : decode cX9_put 22 = .ok (.ifCond .ne 11, 3) := by decide +kernel
theorem dX9_put_25 : decode cX9_put 25 = .ok (.aload_n 0, 1) := by decide +kernel
theorem dX9_put_26 : decode cX9_put 26 = .ok (.iconst 1, 1) := by decide +kernel
theorem dX9_put_27 : decode cX9_put 27 = .ok (.iconst (-1), 1) := by decide +kernel
theorem dX9_put_28 : decode cX9_put 28 = .ok (.invokevirtual 103, 3) := by decide +kernel
theorem dX9_put_31 : decode cX9_put 31 = .ok (.iconst (-1), 1) := by decide +kernel
theorem dX9_put_32 : decode cX9_put 32 = .ok (.ireturn, 1) := by decide +kernel
theorem dX9_put_33 : decode cX9_put 33 = .ok (.aload_n 3, 1) := by decide +kernel
theorem dX9_put_34 : decode cX9_put 34 = .ok (.getfield 107, 3) := by decide +kernel
theorem dX9_put_37 : decode cX9_put 37 = .ok (.iload_n 1, 1) := by decide +kernel
theorem dX9_put_38 : decode cX9_put 38 = .ok (.iaload, 1) := by decide +kernel
theorem dX9_put_39 : decode cX9_put 39 = .ok (.istore 4, 2) := by decide +kernel
theorem dX9_put_41 : decode cX9_put 41 = .ok (.aload_n 3, 1) := by decide +kernel
theorem dX9_put_42 : decode cX9_put 42 = .ok (.iload_n 1, 1) := by decide +kernel
theorem dX9_put_43 : decode cX9_put 43 = .ok (.iload_n 2, 1) := by decide +kernel
theorem dX9_put_44 : decode cX9_put 44 = .ok (.invokevirtual 111, 3) := by decide +kernel
theorem dX9_put_47 : decode cX9_put 47 = .ok (.istore 5, 2) := by decide +kernel
theorem dX9_put_49 : decode cX9_put 49 = .ok (.aload_n 0, 1) := by decide +kernel
theorem dX9_put_50 : decode cX9_put 50 = .ok (.iload 5, 2) := by decide +kernel
theorem dX9_put_52 : decode cX9_put 52 = .ok (.aload_n 3, 1) := by decide +kernel
theorem dX9_put_53 : decode cX9_put 53 = .ok (.getfield 115, 3) := by decide +kernel
theorem dX9_put_56 : decode cX9_put 56 = .ok (.invokevirtual 103, 3) := by decide +kernel
theorem dX9_put_59 : decode cX9_put 59 = .ok (.iload 5, 2) := by decide +kernel
theorem dX9_put_61 : decode cX9_put 61 = .ok (.ifCond .eq 5, 3) := by decide +kernel
theorem dX9_put_64 : decode cX9_put 64 = .ok (.iconst (-1), 1) := by decide +kernel
theorem dX9_put_65 : decode cX9_put 65 = .ok (.ireturn, 1) := by decide +kernel
theorem dX9_put_66 : decode cX9_put 66 = .ok (.aload_n 3, 1) := by decide +kernel
theorem dX9_put_67 : decode cX9_put 67 = .ok (.getfield 116, 3) := by decide +kernel
theorem dX9_put_70 : decode cX9_put 70 = .ok (.iload_n 1, 1) := by decide +kernel
theorem dX9_put_71 : decode cX9_put 71 = .ok (.iaload, 1) := by decide +kernel
theorem dX9_put_72 : decode cX9_put 72 = .ok (.istore 6, 2) := by decide +kernel
theorem dX9_put_74 : decode cX9_put 74 = .ok (.iload 4, 2) := by decide +kernel
theorem dX9_put_76 : decode cX9_put 76 = .ok (.iload_n 2, 1) := by decide +kernel
theorem dX9_put_77 : decode cX9_put 77 = .ok (.iload 6, 2) := by decide +kernel
theorem dX9_put_79 : decode cX9_put 79 = .ok (.invokestatic 119, 3) := by decide +kernel
theorem dX9_put_82 : decode cX9_put 82 = .ok (.istore 7, 2) := by decide +kernel
theorem dX9_put_84 : decode cX9_put 84 = .ok (.aload_n 0, 1) := by decide +kernel
theorem dX9_put_85 : decode cX9_put 85 = .ok (.getfield 10, 3) := by decide +kernel
theorem dX9_put_88 : decode cX9_put 88 = .ok (.getfield 123, 3) := by decide +kernel
theorem dX9_put_91 : decode cX9_put 91 = .ok (.iload 7, 2) := by decide +kernel
theorem dX9_put_93 : decode cX9_put 93 = .ok (.invokevirtual 127, 3) := by decide +kernel
theorem dX9_put_96 : decode cX9_put 96 = .ok (.aload_n 0, 1) := by decide +kernel
theorem dX9_put_97 : decode cX9_put 97 = .ok (.getfield 26, 3) := by decide +kernel
theorem dX9_put_100 : decode cX9_put 100 = .ok (.iload_n 1, 1) := by decide +kernel
theorem dX9_put_101 : decode cX9_put 101 = .ok (.iload 4, 2) := by decide +kernel
theorem dX9_put_103 : decode cX9_put 103 = .ok (.iconst (-1), 1) := by decide +kernel
theorem dX9_put_104 : decode cX9_put 104 = .ok (.iload 7, 2) := by decide +kernel
theorem dX9_put_106 : decode cX9_put 106 = .ok (.invokevirtual 132, 3) := by decide +kernel
theorem dX9_put_109 : decode cX9_put 109 = .ok (.iload 6, 2) := by decide +kernel
theorem dX9_put_111 : decode cX9_put 111 = .ok (.ireturn, 1) := by decide +kernel
theorem dX9_take_0 : decode cX9_take 0 = .ok (.aload_n 0, 1) := by decide +kernel
theorem dX9_take_1 : decode cX9_take 1 = .ok (.getfield 10, 3) := by decide +kernel
theorem dX9_take_4 : decode cX9_take 4 = .ok (.getfield 79, 3) := by decide +kernel
theorem dX9_take_7 : decode cX9_take 7 = .ok (.astore_n 3, 1) := by decide +kernel
theorem dX9_take_8 : decode cX9_take 8 = .ok (.aload_n 3, 1) := by decide +kernel
theorem dX9_take_9 : decode cX9_take 9 = .ok (.iload_n 1, 1) := by decide +kernel
theorem dX9_take_10 : decode cX9_take 10 = .ok (.invokevirtual 136, 3) := by decide +kernel
theorem dX9_take_13 : decode cX9_take 13 = .ok (.ifCond .eq 18, 3) := by decide +kernel
theorem dX9_take_16 : decode cX9_take 16 = .ok (.aload_n 3, 1) := by decide +kernel
theorem dX9_take_17 : decode cX9_take 17 = .ok (.iload_n 1, 1) := by decide +kernel
theorem dX9_take_18 : decode cX9_take 18 = .ok (.invokevirtual 139, 3) := by decide +kernel
theorem dX9_take_21 : decode cX9_take 21 = .ok (.ifCond .eq 10, 3) := by decide +kernel
theorem dX9_take_24 : decode cX9_take 24 = .ok (.iload_n 2, 1) := by decide +kernel
theorem dX9_take_25 : decode cX9_take 25 = .ok (.invokestatic 85, 3) := by decide +kernel
theorem dX9_take_28 : decode cX9_take 28 = .ok (.ifCond .ne 11, 3) := by decide +kernel
theorem dX9_take_31 : decode cX9_take 31 = .ok (.aload_n 0, 1) := by decide +kernel
theorem dX9_take_32 : decode cX9_take 32 = .ok (.iconst 1, 1) := by decide +kernel
theorem dX9_take_33 : decode cX9_take 33 = .ok (.iconst (-1), 1) := by decide +kernel
theorem dX9_take_34 : decode cX9_take 34 = .ok (.invokevirtual 103, 3) := by decide +kernel
theorem dX9_take_37 : decode cX9_take 37 = .ok (.iconst 0, 1) := by decide +kernel
theorem dX9_take_38 : decode cX9_take 38 = .ok (.ireturn, 1) := by decide +kernel
theorem dX9_take_39 : decode cX9_take 39 = .ok (.aload_n 0, 1) := by decide +kernel
theorem dX9_take_40 : decode cX9_take 40 = .ok (.iconst 0, 1) := by decide +kernel
theorem dX9_take_41 : decode cX9_take 41 = .ok (.iconst (-1), 1) := by decide +kernel
theorem dX9_take_42 : decode cX9_take 42 = .ok (.invokevirtual 103, 3) := by decide +kernel
theorem dX9_take_45 : decode cX9_take 45 = .ok (.aload_n 3, 1) := by decide +kernel
theorem dX9_take_46 : decode cX9_take 46 = .ok (.getfield 142, 3) := by decide +kernel
theorem dX9_take_49 : decode cX9_take 49 = .ok (.iload_n 1, 1) := by decide +kernel
theorem dX9_take_50 : decode cX9_take 50 = .ok (.iaload, 1) := by decide +kernel
theorem dX9_take_51 : decode cX9_take 51 = .ok (.istore 4, 2) := by decide +kernel
theorem dX9_take_53 : decode cX9_take 53 = .ok (.iload_n 2, 1) := by decide +kernel
theorem dX9_take_54 : decode cX9_take 54 = .ok (.iload 4, 2) := by decide +kernel
theorem dX9_take_56 : decode cX9_take 56 = .ok (.aload_n 3, 1) := by decide +kernel
theorem dX9_take_57 : decode cX9_take 57 = .ok (.getfield 116, 3) := by decide +kernel
theorem dX9_take_60 : decode cX9_take 60 = .ok (.iload_n 1, 1) := by decide +kernel
theorem dX9_take_61 : decode cX9_take 61 = .ok (.iaload, 1) := by decide +kernel
theorem dX9_take_62 : decode cX9_take 62 = .ok (.invokestatic 119, 3) := by decide +kernel
theorem dX9_take_65 : decode cX9_take 65 = .ok (.istore 5, 2) := by decide +kernel
theorem dX9_take_67 : decode cX9_take 67 = .ok (.aload_n 3, 1) := by decide +kernel
theorem dX9_take_68 : decode cX9_take 68 = .ok (.iload_n 1, 1) := by decide +kernel
theorem dX9_take_69 : decode cX9_take 69 = .ok (.iload_n 2, 1) := by decide +kernel
theorem dX9_take_70 : decode cX9_take 70 = .ok (.invokevirtual 145, 3) := by decide +kernel
theorem dX9_take_73 : decode cX9_take 73 = .ok (.aload_n 0, 1) := by decide +kernel
theorem dX9_take_74 : decode cX9_take 74 = .ok (.getfield 10, 3) := by decide +kernel
theorem dX9_take_77 : decode cX9_take 77 = .ok (.getfield 123, 3) := by decide +kernel
theorem dX9_take_80 : decode cX9_take 80 = .ok (.iload 5, 2) := by decide +kernel
theorem dX9_take_82 : decode cX9_take 82 = .ok (.invokevirtual 127, 3) := by decide +kernel
theorem dX9_take_85 : decode cX9_take 85 = .ok (.aload_n 0, 1) := by decide +kernel
theorem dX9_take_86 : decode cX9_take 86 = .ok (.getfield 26, 3) := by decide +kernel
theorem dX9_take_89 : decode cX9_take 89 = .ok (.iload_n 1, 1) := by decide +kernel
theorem dX9_take_90 : decode cX9_take 90 = .ok (.iconst (-1), 1) := by decide +kernel
theorem dX9_take_91 : decode cX9_take 91 = .ok (.iload 4, 2) := by decide +kernel
theorem dX9_take_93 : decode cX9_take 93 = .ok (.iload 5, 2) := by decide +kernel
theorem dX9_take_95 : decode cX9_take 95 = .ok (.invokevirtual 132, 3) := by decide +kernel
theorem dX9_take_98 : decode cX9_take 98 = .ok (.iconst 1, 1) := by decide +kernel
theorem dX9_take_99 : decode cX9_take 99 = .ok (.ireturn, 1) := by decide +kernel
theorem dX9_refused_0 : decode cX9_refused 0 = .ok (.iload_n 1, 1) := by decide +kernel
theorem dX9_refused_1 : decode cX9_refused 1 = .ok (.ifCond .ne 8, 3) := by decide +kernel
theorem dX9_refused_4 : decode cX9_refused 4 = .ok (.aload_n 0, 1) := by decide +kernel
theorem dX9_refused_5 : decode cX9_refused 5 = .ok (.getfield 45, 3) := by decide +kernel
theorem dX9_refused_8 : decode cX9_refused 8 = .ok (.ireturn, 1) := by decide +kernel
theorem dX9_refused_9 : decode cX9_refused 9 = .ok (.iload_n 1, 1) := by decide +kernel
theorem dX9_refused_10 : decode cX9_refused 10 = .ok (.iconst 1, 1) := by decide +kernel
theorem dX9_refused_11 : decode cX9_refused 11 = .ok (.if_icmp .ne 10, 3) := by decide +kernel
theorem dX9_refused_14 : decode cX9_refused 14 = .ok (.aload_n 0, 1) := by decide +kernel
theorem dX9_refused_15 : decode cX9_refused 15 = .ok (.getfield 48, 3) := by decide +kernel
theorem dX9_refused_18 : decode cX9_refused 18 = .ok (.goto 4, 3) := by decide +kernel
theorem dX9_refused_21 : decode cX9_refused 21 = .ok (.iconst (-1), 1) := by decide +kernel
theorem dX9_refused_22 : decode cX9_refused 22 = .ok (.ireturn, 1) := by decide +kernel
theorem dX9_of_0 : decode cX9_of 0 = .ok (.aload_n 0, 1) := by decide +kernel
theorem dX9_of_1 : decode cX9_of 1 = .ok (.getfield 10, 3) := by decide +kernel
theorem dX9_of_4 : decode cX9_of 4 = .ok (.getfield 79, 3) := by decide +kernel
theorem dX9_of_7 : decode cX9_of 7 = .ok (.astore_n 3, 1) := by decide +kernel
theorem dX9_of_8 : decode cX9_of 8 = .ok (.aload_n 3, 1) := by decide +kernel
theorem dX9_of_9 : decode cX9_of 9 = .ok (.iload_n 1, 1) := by decide +kernel
theorem dX9_of_10 : decode cX9_of 10 = .ok (.invokevirtual 148, 3) := by decide +kernel
theorem dX9_of_13 : decode cX9_of 13 = .ok (.ifCond .ne 6, 3) := by decide +kernel
theorem dX9_of_16 : decode cX9_of 16 = .ok (.bipush (-2), 2) := by decide +kernel
theorem dX9_of_18 : decode cX9_of 18 = .ok (.ireturn, 1) := by decide +kernel
theorem dX9_of_19 : decode cX9_of 19 = .ok (.iload_n 2, 1) := by decide +kernel
theorem dX9_of_20 : decode cX9_of 20 = .ok (.tableswitch 134 0 9 #[56, 63, 70, 77, 84, 91, 98, 105, 111, 117], 56) := by decide +kernel
theorem dX9_of_76 : decode cX9_of 76 = .ok (.aload_n 3, 1) := by decide +kernel
theorem dX9_of_77 : decode cX9_of 77 = .ok (.getfield 151, 3) := by decide +kernel
theorem dX9_of_80 : decode cX9_of 80 = .ok (.iload_n 1, 1) := by decide +kernel
theorem dX9_of_81 : decode cX9_of 81 = .ok (.iaload, 1) := by decide +kernel
theorem dX9_of_82 : decode cX9_of 82 = .ok (.ireturn, 1) := by decide +kernel
theorem dX9_of_83 : decode cX9_of 83 = .ok (.aload_n 3, 1) := by decide +kernel
theorem dX9_of_84 : decode cX9_of 84 = .ok (.getfield 154, 3) := by decide +kernel
theorem dX9_of_87 : decode cX9_of 87 = .ok (.iload_n 1, 1) := by decide +kernel
theorem dX9_of_88 : decode cX9_of 88 = .ok (.iaload, 1) := by decide +kernel
theorem dX9_of_89 : decode cX9_of 89 = .ok (.ireturn, 1) := by decide +kernel
theorem dX9_of_90 : decode cX9_of 90 = .ok (.aload_n 3, 1) := by decide +kernel
theorem dX9_of_91 : decode cX9_of 91 = .ok (.getfield 157, 3) := by decide +kernel
theorem dX9_of_94 : decode cX9_of 94 = .ok (.iload_n 1, 1) := by decide +kernel
theorem dX9_of_95 : decode cX9_of 95 = .ok (.iaload, 1) := by decide +kernel
theorem dX9_of_96 : decode cX9_of 96 = .ok (.ireturn, 1) := by decide +kernel
theorem dX9_of_97 : decode cX9_of 97 = .ok (.aload_n 3, 1) := by decide +kernel
theorem dX9_of_98 : decode cX9_of 98 = .ok (.getfield 160, 3) := by decide +kernel
theorem dX9_of_101 : decode cX9_of 101 = .ok (.iload_n 1, 1) := by decide +kernel
theorem dX9_of_102 : decode cX9_of 102 = .ok (.iaload, 1) := by decide +kernel
theorem dX9_of_103 : decode cX9_of 103 = .ok (.ireturn, 1) := by decide +kernel
theorem dX9_of_104 : decode cX9_of 104 = .ok (.aload_n 3, 1) := by decide +kernel
theorem dX9_of_105 : decode cX9_of 105 = .ok (.getfield 107, 3) := by decide +kernel
theorem dX9_of_108 : decode cX9_of 108 = .ok (.iload_n 1, 1) := by decide +kernel
theorem dX9_of_109 : decode cX9_of 109 = .ok (.iaload, 1) := by decide +kernel
theorem dX9_of_110 : decode cX9_of 110 = .ok (.ireturn, 1) := by decide +kernel
theorem dX9_of_111 : decode cX9_of 111 = .ok (.aload_n 3, 1) := by decide +kernel
theorem dX9_of_112 : decode cX9_of 112 = .ok (.getfield 142, 3) := by decide +kernel
theorem dX9_of_115 : decode cX9_of 115 = .ok (.iload_n 1, 1) := by decide +kernel
theorem dX9_of_116 : decode cX9_of 116 = .ok (.iaload, 1) := by decide +kernel
theorem dX9_of_117 : decode cX9_of 117 = .ok (.ireturn, 1) := by decide +kernel
theorem dX9_of_118 : decode cX9_of 118 = .ok (.aload_n 3, 1) := by decide +kernel
theorem dX9_of_119 : decode cX9_of 119 = .ok (.getfield 116, 3) := by decide +kernel
theorem dX9_of_122 : decode cX9_of 122 = .ok (.iload_n 1, 1) := by decide +kernel
theorem dX9_of_123 : decode cX9_of 123 = .ok (.iaload, 1) := by decide +kernel
theorem dX9_of_124 : decode cX9_of 124 = .ok (.ireturn, 1) := by decide +kernel
theorem dX9_of_125 : decode cX9_of 125 = .ok (.aload_n 3, 1) := by decide +kernel
theorem dX9_of_126 : decode cX9_of 126 = .ok (.iload_n 1, 1) := by decide +kernel
theorem dX9_of_127 : decode cX9_of 127 = .ok (.invokevirtual 163, 3) := by decide +kernel
theorem dX9_of_130 : decode cX9_of 130 = .ok (.ireturn, 1) := by decide +kernel
theorem dX9_of_131 : decode cX9_of 131 = .ok (.aload_n 3, 1) := by decide +kernel
theorem dX9_of_132 : decode cX9_of 132 = .ok (.iload_n 1, 1) := by decide +kernel
theorem dX9_of_133 : decode cX9_of 133 = .ok (.invokevirtual 167, 3) := by decide +kernel
theorem dX9_of_136 : decode cX9_of 136 = .ok (.ireturn, 1) := by decide +kernel
theorem dX9_of_137 : decode cX9_of 137 = .ok (.aload_n 0, 1) := by decide +kernel
theorem dX9_of_138 : decode cX9_of 138 = .ok (.getfield 10, 3) := by decide +kernel
theorem dX9_of_141 : decode cX9_of 141 = .ok (.getfield 170, 3) := by decide +kernel
theorem dX9_of_144 : decode cX9_of 144 = .ok (.aload_n 3, 1) := by decide +kernel
theorem dX9_of_145 : decode cX9_of 145 = .ok (.getfield 154, 3) := by decide +kernel
theorem dX9_of_148 : decode cX9_of 148 = .ok (.iload_n 1, 1) := by decide +kernel
theorem dX9_of_149 : decode cX9_of 149 = .ok (.iaload, 1) := by decide +kernel
theorem dX9_of_150 : decode cX9_of 150 = .ok (.invokevirtual 174, 3) := by decide +kernel
theorem dX9_of_153 : decode cX9_of 153 = .ok (.ireturn, 1) := by decide +kernel
theorem dX9_of_154 : decode cX9_of 154 = .ok (.bipush (-2), 2) := by decide +kernel
theorem dX9_of_156 : decode cX9_of 156 = .ok (.ireturn, 1) := by decide +kernel
theorem dX9_height_0 : decode cX9_height 0 = .ok (.aload_n 0, 1) := by decide +kernel
theorem dX9_height_1 : decode cX9_height 1 = .ok (.getfield 10, 3) := by decide +kernel
theorem dX9_height_4 : decode cX9_height 4 = .ok (.getfield 79, 3) := by decide +kernel
theorem dX9_height_7 : decode cX9_height 7 = .ok (.astore_n 2, 1) := by decide +kernel
theorem dX9_height_8 : decode cX9_height 8 = .ok (.iload_n 1, 1) := by decide +kernel
theorem dX9_height_9 : decode cX9_height 9 = .ok (.iconst (-1), 1) := by decide +kernel
theorem dX9_height_10 : decode cX9_height 10 = .ok (.if_icmp .ne 8, 3) := by decide +kernel
theorem dX9_height_13 : decode cX9_height 13 = .ok (.aload_n 2, 1) := by decide +kernel
theorem dX9_height_14 : decode cX9_height 14 = .ok (.invokevirtual 179, 3) := by decide +kernel
theorem dX9_height_17 : decode cX9_height 17 = .ok (.ireturn, 1) := by decide +kernel
theorem dX9_height_18 : decode cX9_height 18 = .ok (.iload_n 1, 1) := by decide +kernel
theorem dX9_height_19 : decode cX9_height 19 = .ok (.ifCond .lt 20, 3) := by decide +kernel
theorem dX9_height_22 : decode cX9_height 22 = .ok (.iload_n 1, 1) := by decide +kernel
theorem dX9_height_23 : decode cX9_height 23 = .ok (.aload_n 2, 1) := by decide +kernel
theorem dX9_height_24 : decode cX9_height 24 = .ok (.getfield 82, 3) := by decide +kernel
theorem dX9_height_27 : decode cX9_height 27 = .ok (.if_icmp .ge 12, 3) := by decide +kernel
theorem dX9_height_30 : decode cX9_height 30 = .ok (.aload_n 2, 1) := by decide +kernel
theorem dX9_height_31 : decode cX9_height 31 = .ok (.getfield 183, 3) := by decide +kernel
theorem dX9_height_34 : decode cX9_height 34 = .ok (.iload_n 1, 1) := by decide +kernel
theorem dX9_height_35 : decode cX9_height 35 = .ok (.iaload, 1) := by decide +kernel
theorem dX9_height_36 : decode cX9_height 36 = .ok (.goto 5, 3) := by decide +kernel
theorem dX9_height_39 : decode cX9_height 39 = .ok (.bipush (-2), 2) := by decide +kernel
theorem dX9_height_41 : decode cX9_height 41 = .ok (.ireturn, 1) := by decide +kernel
theorem dX9_noon_0 : decode cX9_noon 0 = .ok (.aload_n 0, 1) := by decide +kernel
theorem dX9_noon_1 : decode cX9_noon 1 = .ok (.getfield 10, 3) := by decide +kernel
theorem dX9_noon_4 : decode cX9_noon 4 = .ok (.getfield 123, 3) := by decide +kernel
theorem dX9_noon_7 : decode cX9_noon 7 = .ok (.astore_n 1, 1) := by decide +kernel
theorem dX9_noon_8 : decode cX9_noon 8 = .ok (.aload_n 1, 1) := by decide +kernel
theorem dX9_noon_9 : decode cX9_noon 9 = .ok (.getfield 186, 3) := by decide +kernel
theorem dX9_noon_12 : decode cX9_noon 12 = .ok (.ifCond .eq 6, 3) := by decide +kernel
theorem dX9_noon_15 : decode cX9_noon 15 = .ok (.bipush (-2), 2) := by decide +kernel
theorem dX9_noon_17 : decode cX9_noon 17 = .ok (.ireturn, 1) := by decide +kernel
theorem dX9_noon_18 : decode cX9_noon 18 = .ok (.aload_n 1, 1) := by decide +kernel
theorem dX9_noon_19 : decode cX9_noon 19 = .ok (.iconst 1, 1) := by decide +kernel
theorem dX9_noon_20 : decode cX9_noon 20 = .ok (.putfield 186, 3) := by decide +kernel
theorem dX9_noon_23 : decode cX9_noon 23 = .ok (.aload_n 1, 1) := by decide +kernel
theorem dX9_noon_24 : decode cX9_noon 24 = .ok (.aload_n 0, 1) := by decide +kernel
theorem dX9_noon_25 : decode cX9_noon 25 = .ok (.getfield 10, 3) := by decide +kernel
theorem dX9_noon_28 : decode cX9_noon 28 = .ok (.getfield 79, 3) := by decide +kernel
theorem dX9_noon_31 : decode cX9_noon 31 = .ok (.invokevirtual 179, 3) := by decide +kernel
theorem dX9_noon_34 : decode cX9_noon 34 = .ok (.putfield 189, 3) := by decide +kernel
theorem dX9_noon_37 : decode cX9_noon 37 = .ok (.aload_n 0, 1) := by decide +kernel
theorem dX9_noon_38 : decode cX9_noon 38 = .ok (.getfield 26, 3) := by decide +kernel
theorem dX9_noon_41 : decode cX9_noon 41 = .ok (.invokevirtual 76, 3) := by decide +kernel
theorem dX9_noon_44 : decode cX9_noon 44 = .ok (.aload_n 0, 1) := by decide +kernel
theorem dX9_noon_45 : decode cX9_noon 45 = .ok (.sipush 20000, 3) := by decide +kernel
theorem dX9_noon_48 : decode cX9_noon 48 = .ok (.invokevirtual 192, 3) := by decide +kernel
theorem dX9_noon_51 : decode cX9_noon 51 = .ok (.ireturn, 1) := by decide +kernel
theorem dX9_dusk_0 : decode cX9_dusk 0 = .ok (.aload_n 0, 1) := by decide +kernel
theorem dX9_dusk_1 : decode cX9_dusk 1 = .ok (.sipush 20001, 3) := by decide +kernel
theorem dX9_dusk_4 : decode cX9_dusk 4 = .ok (.invokevirtual 192, 3) := by decide +kernel
theorem dX9_dusk_7 : decode cX9_dusk 7 = .ok (.istore_n 1, 1) := by decide +kernel
theorem dX9_dusk_8 : decode cX9_dusk 8 = .ok (.aload_n 0, 1) := by decide +kernel
theorem dX9_dusk_9 : decode cX9_dusk 9 = .ok (.getfield 10, 3) := by decide +kernel
theorem dX9_dusk_12 : decode cX9_dusk 12 = .ok (.getfield 79, 3) := by decide +kernel
theorem dX9_dusk_15 : decode cX9_dusk 15 = .ok (.invokevirtual 195, 3) := by decide +kernel
theorem dX9_dusk_18 : decode cX9_dusk 18 = .ok (.aload_n 0, 1) := by decide +kernel
theorem dX9_dusk_19 : decode cX9_dusk 19 = .ok (.getfield 10, 3) := by decide +kernel
theorem dX9_dusk_22 : decode cX9_dusk 22 = .ok (.getfield 123, 3) := by decide +kernel
theorem dX9_dusk_25 : decode cX9_dusk 25 = .ok (.invokevirtual 198, 3) := by decide +kernel
theorem dX9_dusk_28 : decode cX9_dusk 28 = .ok (.aload_n 0, 1) := by decide +kernel
theorem dX9_dusk_29 : decode cX9_dusk 29 = .ok (.getfield 26, 3) := by decide +kernel
theorem dX9_dusk_32 : decode cX9_dusk 32 = .ok (.invokevirtual 76, 3) := by decide +kernel
theorem dX9_dusk_35 : decode cX9_dusk 35 = .ok (.iload_n 1, 1) := by decide +kernel
theorem dX9_dusk_36 : decode cX9_dusk 36 = .ok (.ireturn, 1) := by decide +kernel
theorem dX9_feed_0 : decode cX9_feed 0 = .ok (.aload_n 0, 1) := by decide +kernel
theorem dX9_feed_1 : decode cX9_feed 1 = .ok (.getfield 34, 3) := by decide +kernel
theorem dX9_feed_4 : decode cX9_feed 4 = .ok (.bipush 20, 2) := by decide +kernel
theorem dX9_feed_6 : decode cX9_feed 6 = .ok (.iadd, 1) := by decide +kernel
theorem dX9_feed_7 : decode cX9_feed 7 = .ok (.sipush 400, 3) := by decide +kernel
theorem dX9_feed_10 : decode cX9_feed 10 = .ok (.if_icmp .le 5, 3) := by decide +kernel
theorem dX9_feed_13 : decode cX9_feed 13 = .ok (.iconst (-1), 1) := by decide +kernel
theorem dX9_feed_14 : decode cX9_feed 14 = .ok (.ireturn, 1) := by decide +kernel
theorem dX9_feed_15 : decode cX9_feed 15 = .ok (.aload_n 0, 1) := by decide +kernel
theorem dX9_feed_16 : decode cX9_feed 16 = .ok (.iload_n 1, 1) := by decide +kernel
theorem dX9_feed_17 : decode cX9_feed 17 = .ok (.invokevirtual 201, 3) := by decide +kernel
theorem dX9_feed_20 : decode cX9_feed 20 = .ok (.aload_n 0, 1) := by decide +kernel
theorem dX9_feed_21 : decode cX9_feed 21 = .ok (.iload_n 2, 1) := by decide +kernel
theorem dX9_feed_22 : decode cX9_feed 22 = .ok (.invokevirtual 201, 3) := by decide +kernel
theorem dX9_feed_25 : decode cX9_feed 25 = .ok (.aload_n 0, 1) := by decide +kernel
theorem dX9_feed_26 : decode cX9_feed 26 = .ok (.iload_n 3, 1) := by decide +kernel
theorem dX9_feed_27 : decode cX9_feed 27 = .ok (.invokevirtual 201, 3) := by decide +kernel
theorem dX9_feed_30 : decode cX9_feed 30 = .ok (.aload_n 0, 1) := by decide +kernel
theorem dX9_feed_31 : decode cX9_feed 31 = .ok (.iload 4, 2) := by decide +kernel
theorem dX9_feed_33 : decode cX9_feed 33 = .ok (.invokevirtual 201, 3) := by decide +kernel
theorem dX9_feed_36 : decode cX9_feed 36 = .ok (.aload_n 0, 1) := by decide +kernel
theorem dX9_feed_37 : decode cX9_feed 37 = .ok (.iload 5, 2) := by decide +kernel
theorem dX9_feed_39 : decode cX9_feed 39 = .ok (.invokevirtual 201, 3) := by decide +kernel
theorem dX9_feed_42 : decode cX9_feed 42 = .ok (.aload_n 0, 1) := by decide +kernel
theorem dX9_feed_43 : decode cX9_feed 43 = .ok (.getfield 34, 3) := by decide +kernel
theorem dX9_feed_46 : decode cX9_feed 46 = .ok (.ireturn, 1) := by decide +kernel
theorem dX9_end_0 : decode cX9_end 0 = .ok (.iload_n 1, 1) := by decide +kernel
theorem dX9_end_1 : decode cX9_end 1 = .ok (.ifCond .lt 11, 3) := by decide +kernel
theorem dX9_end_4 : decode cX9_end 4 = .ok (.iload_n 1, 1) := by decide +kernel
theorem dX9_end_5 : decode cX9_end 5 = .ok (.aload_n 0, 1) := by decide +kernel
theorem dX9_end_6 : decode cX9_end 6 = .ok (.getfield 34, 3) := by decide +kernel
theorem dX9_end_9 : decode cX9_end 9 = .ok (.if_icmp .le 5, 3) := by decide +kernel
theorem dX9_end_12 : decode cX9_end 12 = .ok (.iconst 0, 1) := by decide +kernel
theorem dX9_end_13 : decode cX9_end 13 = .ok (.ireturn, 1) := by decide +kernel
theorem dX9_end_14 : decode cX9_end 14 = .ok (.aload_n 0, 1) := by decide +kernel
theorem dX9_end_15 : decode cX9_end 15 = .ok (.iload_n 1, 1) := by decide +kernel
theorem dX9_end_16 : decode cX9_end 16 = .ok (.putfield 34, 3) := by decide +kernel
theorem dX9_end_19 : decode cX9_end 19 = .ok (.iconst 1, 1) := by decide +kernel
theorem dX9_end_20 : decode cX9_end 20 = .ok (.ireturn, 1) := by decide +kernel
theorem dX9_text_0 : decode cX9_text 0 = .ok (.aload_n 0, 1) := by decide +kernel
theorem dX9_text_1 : decode cX9_text 1 = .ok (.getfield 41, 3) := by decide +kernel
theorem dX9_text_4 : decode cX9_text 4 = .ok (.aload_n 0, 1) := by decide +kernel
theorem dX9_text_5 : decode cX9_text 5 = .ok (.getfield 30, 3) := by decide +kernel
theorem dX9_text_8 : decode cX9_text 8 = .ok (.aload_n 0, 1) := by decide +kernel
theorem dX9_text_9 : decode cX9_text 9 = .ok (.getfield 34, 3) := by decide +kernel
theorem dX9_text_12 : decode cX9_text 12 = .ok (.invokevirtual 204, 3) := by decide +kernel
theorem dX9_text_15 : decode cX9_text 15 = .ok (.aload_n 0, 1) := by decide +kernel
theorem dX9_text_16 : decode cX9_text 16 = .ok (.iconst 0, 1) := by decide +kernel
theorem dX9_text_17 : decode cX9_text 17 = .ok (.putfield 34, 3) := by decide +kernel
theorem dX9_text_20 : decode cX9_text 20 = .ok (.aload_n 0, 1) := by decide +kernel
theorem dX9_text_21 : decode cX9_text 21 = .ok (.getfield 41, 3) := by decide +kernel
theorem dX9_text_24 : decode cX9_text 24 = .ok (.iconst (-1), 1) := by decide +kernel
theorem dX9_text_25 : decode cX9_text 25 = .ok (.invokevirtual 208, 3) := by decide +kernel
theorem dX9_text_28 : decode cX9_text 28 = .ok (.pop, 1) := by decide +kernel
theorem dX9_text_29 : decode cX9_text 29 = .ok (.aload_n 0, 1) := by decide +kernel
theorem dX9_text_30 : decode cX9_text 30 = .ok (.getfield 41, 3) := by decide +kernel
theorem dX9_text_33 : decode cX9_text 33 = .ok (.getfield 211, 3) := by decide +kernel
theorem dX9_text_36 : decode cX9_text 36 = .ok (.ifCond .eq 5, 3) := by decide +kernel
theorem dX9_text_39 : decode cX9_text 39 = .ok (.iconst (-1), 1) := by decide +kernel
theorem dX9_text_40 : decode cX9_text 40 = .ok (.ireturn, 1) := by decide +kernel
theorem dX9_text_41 : decode cX9_text 41 = .ok (.aload_n 0, 1) := by decide +kernel
theorem dX9_text_42 : decode cX9_text 42 = .ok (.getfield 10, 3) := by decide +kernel
theorem dX9_text_45 : decode cX9_text 45 = .ok (.getfield 214, 3) := by decide +kernel
theorem dX9_text_48 : decode cX9_text 48 = .ok (.aload_n 0, 1) := by decide +kernel
theorem dX9_text_49 : decode cX9_text 49 = .ok (.getfield 41, 3) := by decide +kernel
theorem dX9_text_52 : decode cX9_text 52 = .ok (.invokevirtual 217, 3) := by decide +kernel
theorem dX9_text_55 : decode cX9_text 55 = .ok (.aload_n 0, 1) := by decide +kernel
theorem dX9_text_56 : decode cX9_text 56 = .ok (.getfield 41, 3) := by decide +kernel
theorem dX9_text_59 : decode cX9_text 59 = .ok (.getfield 221, 3) := by decide +kernel
theorem dX9_text_62 : decode cX9_text 62 = .ok (.ireturn, 1) := by decide +kernel
theorem dX9_fault_0 : decode cX9_fault 0 = .ok (.iload_n 1, 1) := by decide +kernel
theorem dX9_fault_1 : decode cX9_fault 1 = .ok (.ifCond .ne 11, 3) := by decide +kernel
theorem dX9_fault_4 : decode cX9_fault 4 = .ok (.aload_n 0, 1) := by decide +kernel
theorem dX9_fault_5 : decode cX9_fault 5 = .ok (.getfield 41, 3) := by decide +kernel
theorem dX9_fault_8 : decode cX9_fault 8 = .ok (.getfield 211, 3) := by decide +kernel
theorem dX9_fault_11 : decode cX9_fault 11 = .ok (.ireturn, 1) := by decide +kernel
theorem dX9_fault_12 : decode cX9_fault 12 = .ok (.iload_n 1, 1) := by decide +kernel
theorem dX9_fault_13 : decode cX9_fault 13 = .ok (.iconst 1, 1) := by decide +kernel
theorem dX9_fault_14 : decode cX9_fault 14 = .ok (.if_icmp .ne 13, 3) := by decide +kernel
theorem dX9_fault_17 : decode cX9_fault 17 = .ok (.aload_n 0, 1) := by decide +kernel
theorem dX9_fault_18 : decode cX9_fault 18 = .ok (.getfield 41, 3) := by decide +kernel
theorem dX9_fault_21 : decode cX9_fault 21 = .ok (.getfield 224, 3) := by decide +kernel
theorem dX9_fault_24 : decode cX9_fault 24 = .ok (.goto 4, 3) := by decide +kernel
theorem dX9_fault_27 : decode cX9_fault 27 = .ok (.iconst (-1), 1) := by decide +kernel
theorem dX9_fault_28 : decode cX9_fault 28 = .ok (.ireturn, 1) := by decide +kernel
theorem dX9_plan_0 : decode cX9_plan 0 = .ok (.aload_n 0, 1) := by decide +kernel
theorem dX9_plan_1 : decode cX9_plan 1 = .ok (.getfield 10, 3) := by decide +kernel
theorem dX9_plan_4 : decode cX9_plan 4 = .ok (.getfield 79, 3) := by decide +kernel
theorem dX9_plan_7 : decode cX9_plan 7 = .ok (.astore_n 3, 1) := by decide +kernel
theorem dX9_plan_8 : decode cX9_plan 8 = .ok (.iload_n 1, 1) := by decide +kernel
theorem dX9_plan_9 : decode cX9_plan 9 = .ok (.iconst 1, 1) := by decide +kernel
theorem dX9_plan_10 : decode cX9_plan 10 = .ok (.if_icmp .lt 26, 3) := by decide +kernel
theorem dX9_plan_13 : decode cX9_plan 13 = .ok (.iload_n 1, 1) := by decide +kernel
theorem dX9_plan_14 : decode cX9_plan 14 = .ok (.bipush 20, 2) := by decide +kernel
theorem dX9_plan_16 : decode cX9_plan 16 = .ok (.if_icmp .gt 20, 3) := by decide +kernel
theorem dX9_plan_19 : decode cX9_plan 19 = .ok (.aload_n 3, 1) := by decide +kernel
theorem dX9_plan_20 : decode cX9_plan 20 = .ok (.getfield 82, 3) := by decide +kernel
theorem dX9_plan_23 : decode cX9_plan 23 = .ok (.iconst 5, 1) := by decide +kernel
theorem dX9_plan_24 : decode cX9_plan 24 = .ok (.if_icmp .gt 12, 3) := by decide +kernel
theorem dX9_plan_27 : decode cX9_plan 27 = .ok (.aload_n 3, 1) := by decide +kernel
theorem dX9_plan_28 : decode cX9_plan 28 = .ok (.invokevirtual 227, 3) := by decide +kernel
theorem dX9_plan_31 : decode cX9_plan 31 = .ok (.bipush 6, 2) := by decide +kernel
theorem dX9_plan_33 : decode cX9_plan 33 = .ok (.if_icmp .le 5, 3) := by decide +kernel
theorem dX9_plan_36 : decode cX9_plan 36 = .ok (.iconst (-1), 1) := by decide +kernel
theorem dX9_plan_37 : decode cX9_plan 37 = .ok (.ireturn, 1) := by decide +kernel
theorem dX9_plan_38 : decode cX9_plan 38 = .ok (.iload_n 2, 1) := by decide +kernel
theorem dX9_plan_39 : decode cX9_plan 39 = .ok (.invokestatic 230, 3) := by decide +kernel
theorem dX9_plan_42 : decode cX9_plan 42 = .ok (.ifCond .ne 5, 3) := by decide +kernel
theorem dX9_plan_45 : decode cX9_plan 45 = .ok (.iconst (-1), 1) := by decide +kernel
theorem dX9_plan_46 : decode cX9_plan 46 = .ok (.ireturn, 1) := by decide +kernel
theorem dX9_plan_47 : decode cX9_plan 47 = .ok (.aload_n 0, 1) := by decide +kernel
theorem dX9_plan_48 : decode cX9_plan 48 = .ok (.getfield 54, 3) := by decide +kernel
theorem dX9_plan_51 : decode cX9_plan 51 = .ok (.aload_n 3, 1) := by decide +kernel
theorem dX9_plan_52 : decode cX9_plan 52 = .ok (.invokevirtual 233, 3) := by decide +kernel
theorem dX9_plan_55 : decode cX9_plan 55 = .ok (.aload_n 0, 1) := by decide +kernel
theorem dX9_plan_56 : decode cX9_plan 56 = .ok (.getfield 61, 3) := by decide +kernel
theorem dX9_plan_59 : decode cX9_plan 59 = .ok (.aload_n 0, 1) := by decide +kernel
theorem dX9_plan_60 : decode cX9_plan 60 = .ok (.getfield 54, 3) := by decide +kernel
theorem dX9_plan_63 : decode cX9_plan 63 = .ok (.iload_n 1, 1) := by decide +kernel
theorem dX9_plan_64 : decode cX9_plan 64 = .ok (.invokevirtual 236, 3) := by decide +kernel
theorem dX9_plan_67 : decode cX9_plan 67 = .ok (.aload_n 0, 1) := by decide +kernel
theorem dX9_plan_68 : decode cX9_plan 68 = .ok (.getfield 61, 3) := by decide +kernel
theorem dX9_plan_71 : decode cX9_plan 71 = .ok (.iload_n 2, 1) := by decide +kernel
theorem dX9_plan_72 : decode cX9_plan 72 = .ok (.invokevirtual 240, 3) := by decide +kernel
theorem dX9_plan_75 : decode cX9_plan 75 = .ok (.ireturn, 1) := by decide +kernel
theorem dX9_down_0 : decode cX9_down 0 = .ok (.iload_n 1, 1) := by decide +kernel
theorem dX9_down_1 : decode cX9_down 1 = .ok (.ifCond .lt 9, 3) := by decide +kernel
theorem dX9_down_4 : decode cX9_down 4 = .ok (.iload_n 1, 1) := by decide +kernel
theorem dX9_down_5 : decode cX9_down 5 = .ok (.bipush 20, 2) := by decide +kernel
theorem dX9_down_7 : decode cX9_down 7 = .ok (.if_icmp .lt 5, 3) := by decide +kernel
theorem dX9_down_10 : decode cX9_down 10 = .ok (.iconst (-1), 1) := by decide +kernel
theorem dX9_down_11 : decode cX9_down 11 = .ok (.ireturn, 1) := by decide +kernel
theorem dX9_down_12 : decode cX9_down 12 = .ok (.aload_n 0, 1) := by decide +kernel
theorem dX9_down_13 : decode cX9_down 13 = .ok (.getfield 54, 3) := by decide +kernel
theorem dX9_down_16 : decode cX9_down 16 = .ok (.aload_n 0, 1) := by decide +kernel
theorem dX9_down_17 : decode cX9_down 17 = .ok (.getfield 10, 3) := by decide +kernel
theorem dX9_down_20 : decode cX9_down 20 = .ok (.getfield 79, 3) := by decide +kernel
theorem dX9_down_23 : decode cX9_down 23 = .ok (.invokevirtual 233, 3) := by decide +kernel
theorem dX9_down_26 : decode cX9_down 26 = .ok (.iconst (-1), 1) := by decide +kernel
theorem dX9_down_27 : decode cX9_down 27 = .ok (.istore_n 2, 1) := by decide +kernel
theorem dX9_down_28 : decode cX9_down 28 = .ok (.iconst 0, 1) := by decide +kernel
theorem dX9_down_29 : decode cX9_down 29 = .ok (.istore_n 3, 1) := by decide +kernel
theorem dX9_down_30 : decode cX9_down 30 = .ok (.iload_n 3, 1) := by decide +kernel
theorem dX9_down_31 : decode cX9_down 31 = .ok (.iload_n 1, 1) := by decide +kernel
theorem dX9_down_32 : decode cX9_down 32 = .ok (.if_icmp .gt 33, 3) := by decide +kernel
theorem dX9_down_35 : decode cX9_down 35 = .ok (.aload_n 0, 1) := by decide +kernel
theorem dX9_down_36 : decode cX9_down 36 = .ok (.getfield 54, 3) := by decide +kernel
theorem dX9_down_39 : decode cX9_down 39 = .ok (.invokevirtual 243, 3) := by decide +kernel
theorem dX9_down_42 : decode cX9_down 42 = .ok (.istore_n 2, 1) := by decide +kernel
theorem dX9_down_43 : decode cX9_down 43 = .ok (.iload_n 2, 1) := by decide +kernel
theorem dX9_down_44 : decode cX9_down 44 = .ok (.iconst (-1), 1) := by decide +kernel
theorem dX9_down_45 : decode cX9_down 45 = .ok (.if_icmp .ne 5, 3) := by decide +kernel
theorem dX9_down_48 : decode cX9_down 48 = .ok (.iconst (-1), 1) := by decide +kernel
theorem dX9_down_49 : decode cX9_down 49 = .ok (.ireturn, 1) := by decide +kernel
theorem dX9_down_50 : decode cX9_down 50 = .ok (.aload_n 0, 1) := by decide +kernel
theorem dX9_down_51 : decode cX9_down 51 = .ok (.getfield 54, 3) := by decide +kernel
theorem dX9_down_54 : decode cX9_down 54 = .ok (.iload_n 2, 1) := by decide +kernel
theorem dX9_down_55 : decode cX9_down 55 = .ok (.iconst 0, 1) := by decide +kernel
theorem dX9_down_56 : decode cX9_down 56 = .ok (.invokevirtual 145, 3) := by decide +kernel
theorem dX9_down_59 : decode cX9_down 59 = .ok (.iinc 3 1, 3) := by decide +kernel
theorem dX9_down_62 : decode cX9_down 62 = .ok (.goto (-32), 3) := by decide +kernel
theorem dX9_down_65 : decode cX9_down 65 = .ok (.iload_n 2, 1) := by decide +kernel
theorem dX9_down_66 : decode cX9_down 66 = .ok (.ireturn, 1) := by decide +kernel
theorem dX9_which_0 : decode cX9_which 0 = .ok (.iload_n 1, 1) := by decide +kernel
theorem dX9_which_1 : decode cX9_which 1 = .ok (.ifCond .eq 29, 3) := by decide +kernel
theorem dX9_which_4 : decode cX9_which 4 = .ok (.iload_n 1, 1) := by decide +kernel
theorem dX9_which_5 : decode cX9_which 5 = .ok (.invokestatic 246, 3) := by decide +kernel
theorem dX9_which_8 : decode cX9_which 8 = .ok (.bipush 6, 2) := by decide +kernel
theorem dX9_which_10 : decode cX9_which 10 = .ok (.if_icmp .gt 20, 3) := by decide +kernel
theorem dX9_which_13 : decode cX9_which 13 = .ok (.iload_n 1, 1) := by decide +kernel
theorem dX9_which_14 : decode cX9_which 14 = .ok (.aload_n 0, 1) := by decide +kernel
theorem dX9_which_15 : decode cX9_which 15 = .ok (.getfield 10, 3) := by decide +kernel
theorem dX9_which_18 : decode cX9_which 18 = .ok (.getfield 79, 3) := by decide +kernel
theorem dX9_which_21 : decode cX9_which 21 = .ok (.invokevirtual 251, 3) := by decide +kernel
theorem dX9_which_24 : decode cX9_which 24 = .ok (.iconst (-1), 1) := by decide +kernel
theorem dX9_which_25 : decode cX9_which 25 = .ok (.ixor, 1) := by decide +kernel
theorem dX9_which_26 : decode cX9_which 26 = .ok (.iand, 1) := by decide +kernel
theorem dX9_which_27 : decode cX9_which 27 = .ok (.ifCond .eq 5, 3) := by decide +kernel
theorem dX9_which_30 : decode cX9_which 30 = .ok (.iconst (-1), 1) := by decide +kernel
theorem dX9_which_31 : decode cX9_which 31 = .ok (.ireturn, 1) := by decide +kernel
theorem dX9_which_32 : decode cX9_which 32 = .ok (.iload_n 1, 1) := by decide +kernel
theorem dX9_which_33 : decode cX9_which 33 = .ok (.iload_n 2, 1) := by decide +kernel
theorem dX9_which_34 : decode cX9_which 34 = .ok (.invokestatic 254, 3) := by decide +kernel
theorem dX9_which_37 : decode cX9_which 37 = .ok (.ifCond .ne 5, 3) := by decide +kernel
theorem dX9_which_40 : decode cX9_which 40 = .ok (.iconst (-1), 1) := by decide +kernel
theorem dX9_which_41 : decode cX9_which 41 = .ok (.ireturn, 1) := by decide +kernel
theorem dX9_which_42 : decode cX9_which 42 = .ok (.aload_n 0, 1) := by decide +kernel
theorem dX9_which_43 : decode cX9_which 43 = .ok (.getfield 54, 3) := by decide +kernel
theorem dX9_which_46 : decode cX9_which 46 = .ok (.aload_n 0, 1) := by decide +kernel
theorem dX9_which_47 : decode cX9_which 47 = .ok (.getfield 10, 3) := by decide +kernel
theorem dX9_which_50 : decode cX9_which 50 = .ok (.getfield 79, 3) := by decide +kernel
theorem dX9_which_53 : decode cX9_which 53 = .ok (.invokevirtual 233, 3) := by decide +kernel
theorem dX9_which_56 : decode cX9_which 56 = .ok (.aload_n 0, 1) := by decide +kernel
theorem dX9_which_57 : decode cX9_which 57 = .ok (.getfield 54, 3) := by decide +kernel
theorem dX9_which_60 : decode cX9_which 60 = .ok (.invokevirtual 256, 3) := by decide +kernel
theorem dX9_which_63 : decode cX9_which 63 = .ok (.aload_n 0, 1) := by decide +kernel
theorem dX9_which_64 : decode cX9_which 64 = .ok (.getfield 68, 3) := by decide +kernel
theorem dX9_which_67 : decode cX9_which 67 = .ok (.aload_n 0, 1) := by decide +kernel
theorem dX9_which_68 : decode cX9_which 68 = .ok (.getfield 54, 3) := by decide +kernel
theorem dX9_which_71 : decode cX9_which 71 = .ok (.iload_n 1, 1) := by decide +kernel
theorem dX9_which_72 : decode cX9_which 72 = .ok (.invokevirtual 259, 3) := by decide +kernel
theorem dX9_which_75 : decode cX9_which 75 = .ok (.aload_n 0, 1) := by decide +kernel
theorem dX9_which_76 : decode cX9_which 76 = .ok (.getfield 68, 3) := by decide +kernel
theorem dX9_which_79 : decode cX9_which 79 = .ok (.iload_n 2, 1) := by decide +kernel
theorem dX9_which_80 : decode cX9_which 80 = .ok (.invokevirtual 260, 3) := by decide +kernel
theorem dX9_which_83 : decode cX9_which 83 = .ok (.ireturn, 1) := by decide +kernel
theorem dX9_hand_0 : decode cX9_hand 0 = .ok (.aload_n 0, 1) := by decide +kernel
theorem dX9_hand_1 : decode cX9_hand 1 = .ok (.getfield 10, 3) := by decide +kernel
theorem dX9_hand_4 : decode cX9_hand 4 = .ok (.getfield 170, 3) := by decide +kernel
theorem dX9_hand_7 : decode cX9_hand 7 = .ok (.iload_n 1, 1) := by decide +kernel
theorem dX9_hand_8 : decode cX9_hand 8 = .ok (.invokevirtual 261, 3) := by decide +kernel
theorem dX9_hand_11 : decode cX9_hand 11 = .ok (.ireturn, 1) := by decide +kernel
theorem dX9_quarrel_0 : decode cX9_quarrel 0 = .ok (.aload_n 0, 1) := by decide +kernel
theorem dX9_quarrel_1 : decode cX9_quarrel 1 = .ok (.getfield 10, 3) := by decide +kernel
theorem dX9_quarrel_4 : decode cX9_quarrel 4 = .ok (.getfield 170, 3) := by decide +kernel
theorem dX9_quarrel_7 : decode cX9_quarrel 7 = .ok (.iload_n 1, 1) := by decide +kernel
theorem dX9_quarrel_8 : decode cX9_quarrel 8 = .ok (.iload_n 2, 1) := by decide +kernel
theorem dX9_quarrel_9 : decode cX9_quarrel 9 = .ok (.iload_n 3, 1) := by decide +kernel
theorem dX9_quarrel_10 : decode cX9_quarrel 10 = .ok (.invokevirtual 263, 3) := by decide +kernel
theorem dX9_quarrel_13 : decode cX9_quarrel 13 = .ok (.ireturn, 1) := by decide +kernel
theorem dX9_wind_0 : decode cX9_wind 0 = .ok (.aload_n 0, 1) := by decide +kernel
theorem dX9_wind_1 : decode cX9_wind 1 = .ok (.getfield 10, 3) := by decide +kernel
theorem dX9_wind_4 : decode cX9_wind 4 = .ok (.getfield 267, 3) := by decide +kernel
theorem dX9_wind_7 : decode cX9_wind 7 = .ok (.iload_n 1, 1) := by decide +kernel
theorem dX9_wind_8 : decode cX9_wind 8 = .ok (.iload_n 2, 1) := by decide +kernel
theorem dX9_wind_9 : decode cX9_wind 9 = .ok (.iload_n 3, 1) := by decide +kernel
theorem dX9_wind_10 : decode cX9_wind 10 = .ok (.invokevirtual 271, 3) := by decide +kernel
theorem dX9_wind_13 : decode cX9_wind 13 = .ok (.ireturn, 1) := by decide +kernel
theorem dX9_pay_0 : decode cX9_pay 0 = .ok (.aload_n 0, 1) := by decide +kernel
theorem dX9_pay_1 : decode cX9_pay 1 = .ok (.getfield 10, 3) := by decide +kernel
theorem dX9_pay_4 : decode cX9_pay 4 = .ok (.getfield 267, 3) := by decide +kernel
theorem dX9_pay_7 : decode cX9_pay 7 = .ok (.iload_n 1, 1) := by decide +kernel
theorem dX9_pay_8 : decode cX9_pay 8 = .ok (.iload_n 2, 1) := by decide +kernel
theorem dX9_pay_9 : decode cX9_pay 9 = .ok (.invokevirtual 277, 3) := by decide +kernel
theorem dX9_pay_12 : decode cX9_pay 12 = .ok (.ireturn, 1) := by decide +kernel
theorem dX9_worth_0 : decode cX9_worth 0 = .ok (.iload_n 1, 1) := by decide +kernel
theorem dX9_worth_1 : decode cX9_worth 1 = .ok (.iconst 1, 1) := by decide +kernel
theorem dX9_worth_2 : decode cX9_worth 2 = .ok (.if_icmp .lt 22, 3) := by decide +kernel
theorem dX9_worth_5 : decode cX9_worth 5 = .ok (.iload_n 1, 1) := by decide +kernel
theorem dX9_worth_6 : decode cX9_worth 6 = .ok (.bipush 8, 2) := by decide +kernel
theorem dX9_worth_8 : decode cX9_worth 8 = .ok (.if_icmp .gt 16, 3) := by decide +kernel
theorem dX9_worth_11 : decode cX9_worth 11 = .ok (.iload_n 2, 1) := by decide +kernel
theorem dX9_worth_12 : decode cX9_worth 12 = .ok (.ifCond .lt 12, 3) := by decide +kernel
theorem dX9_worth_15 : decode cX9_worth 15 = .ok (.iload_n 2, 1) := by decide +kernel
theorem dX9_worth_16 : decode cX9_worth 16 = .ok (.iload_n 1, 1) := by decide +kernel
theorem dX9_worth_17 : decode cX9_worth 17 = .ok (.if_icmp .gt 7, 3) := by decide +kernel
theorem dX9_worth_20 : decode cX9_worth 20 = .ok (.iconst 1, 1) := by decide +kernel
theorem dX9_worth_21 : decode cX9_worth 21 = .ok (.goto 4, 3) := by decide +kernel
theorem dX9_worth_24 : decode cX9_worth 24 = .ok (.iconst 0, 1) := by decide +kernel
theorem dX9_worth_25 : decode cX9_worth 25 = .ok (.istore 5, 2) := by decide +kernel
theorem dX9_worth_27 : decode cX9_worth 27 = .ok (.iload 5, 2) := by decide +kernel
theorem dX9_worth_29 : decode cX9_worth 29 = .ok (.ifCond .eq 24, 3) := by decide +kernel
theorem dX9_worth_32 : decode cX9_worth 32 = .ok (.iload_n 3, 1) := by decide +kernel
theorem dX9_worth_33 : decode cX9_worth 33 = .ok (.ifCond .lt 20, 3) := by decide +kernel
theorem dX9_worth_36 : decode cX9_worth 36 = .ok (.iload_n 3, 1) := by decide +kernel
theorem dX9_worth_37 : decode cX9_worth 37 = .ok (.bipush 8, 2) := by decide +kernel
theorem dX9_worth_39 : decode cX9_worth 39 = .ok (.if_icmp .gt 14, 3) := by decide +kernel
theorem dX9_worth_42 : decode cX9_worth 42 = .ok (.iload 4, 2) := by decide +kernel
theorem dX9_worth_44 : decode cX9_worth 44 = .ok (.ifCond .lt 9, 3) := by decide +kernel
theorem dX9_worth_47 : decode cX9_worth 47 = .ok (.iload 4, 2) := by decide +kernel
theorem dX9_worth_49 : decode cX9_worth 49 = .ok (.iconst 1, 1) := by decide +kernel
theorem dX9_worth_50 : decode cX9_worth 50 = .ok (.if_icmp .le 7, 3) := by decide +kernel
theorem dX9_worth_53 : decode cX9_worth 53 = .ok (.ldc2_w 280, 3) := by decide +kernel
theorem dX9_worth_56 : decode cX9_worth 56 = .ok (.lreturn, 1) := by decide +kernel
theorem dX9_worth_57 : decode cX9_worth 57 = .ok (.aload_n 0, 1) := by decide +kernel
theorem dX9_worth_58 : decode cX9_worth 58 = .ok (.getfield 10, 3) := by decide +kernel
theorem dX9_worth_61 : decode cX9_worth 61 = .ok (.getfield 267, 3) := by decide +kernel
theorem dX9_worth_64 : decode cX9_worth 64 = .ok (.iload_n 1, 1) := by decide +kernel
theorem dX9_worth_65 : decode cX9_worth 65 = .ok (.iload_n 2, 1) := by decide +kernel
theorem dX9_worth_66 : decode cX9_worth 66 = .ok (.iload_n 3, 1) := by decide +kernel
theorem dX9_worth_67 : decode cX9_worth 67 = .ok (.iload 4, 2) := by decide +kernel
theorem dX9_worth_69 : decode cX9_worth 69 = .ok (.iconst 1, 1) := by decide +kernel
theorem dX9_worth_70 : decode cX9_worth 70 = .ok (.if_icmp .ne 7, 3) := by decide +kernel
theorem dX9_worth_73 : decode cX9_worth 73 = .ok (.iconst 1, 1) := by decide +kernel
theorem dX9_worth_74 : decode cX9_worth 74 = .ok (.goto 4, 3) := by decide +kernel
theorem dX9_worth_77 : decode cX9_worth 77 = .ok (.iconst 0, 1) := by decide +kernel
theorem dX9_worth_78 : decode cX9_worth 78 = .ok (.invokevirtual 282, 3) := by decide +kernel
theorem dX9_worth_81 : decode cX9_worth 81 = .ok (.lreturn, 1) := by decide +kernel
theorem dX9_bet_0 : decode cX9_bet 0 = .ok (.iload_n 1, 1) := by decide +kernel
theorem dX9_bet_1 : decode cX9_bet 1 = .ok (.iconst 1, 1) := by decide +kernel
theorem dX9_bet_2 : decode cX9_bet 2 = .ok (.if_icmp .lt 19, 3) := by decide +kernel
theorem dX9_bet_5 : decode cX9_bet 5 = .ok (.iload_n 1, 1) := by decide +kernel
theorem dX9_bet_6 : decode cX9_bet 6 = .ok (.bipush 8, 2) := by decide +kernel
theorem dX9_bet_8 : decode cX9_bet 8 = .ok (.if_icmp .gt 13, 3) := by decide +kernel
theorem dX9_bet_11 : decode cX9_bet 11 = .ok (.iload_n 2, 1) := by decide +kernel
theorem dX9_bet_12 : decode cX9_bet 12 = .ok (.ifCond .lt 9, 3) := by decide +kernel
theorem dX9_bet_15 : decode cX9_bet 15 = .ok (.iload_n 2, 1) := by decide +kernel
theorem dX9_bet_16 : decode cX9_bet 16 = .ok (.bipush 8, 2) := by decide +kernel
theorem dX9_bet_18 : decode cX9_bet 18 = .ok (.if_icmp .le 7, 3) := by decide +kernel
theorem dX9_bet_21 : decode cX9_bet 21 = .ok (.ldc2_w 280, 3) := by decide +kernel
theorem dX9_bet_24 : decode cX9_bet 24 = .ok (.lreturn, 1) := by decide +kernel
theorem dX9_bet_25 : decode cX9_bet 25 = .ok (.aload_n 0, 1) := by decide +kernel
theorem dX9_bet_26 : decode cX9_bet 26 = .ok (.getfield 10, 3) := by decide +kernel
theorem dX9_bet_29 : decode cX9_bet 29 = .ok (.getfield 267, 3) := by decide +kernel
theorem dX9_bet_32 : decode cX9_bet 32 = .ok (.iload_n 1, 1) := by decide +kernel
theorem dX9_bet_33 : decode cX9_bet 33 = .ok (.iload_n 2, 1) := by decide +kernel
theorem dX9_bet_34 : decode cX9_bet 34 = .ok (.invokevirtual 286, 3) := by decide +kernel
theorem dX9_bet_37 : decode cX9_bet 37 = .ok (.lreturn, 1) := by decide +kernel
theorem dX9_undo_0 : decode cX9_undo 0 = .ok (.aload_n 0, 1) := by decide +kernel
theorem dX9_undo_1 : decode cX9_undo 1 = .ok (.getfield 26, 3) := by decide +kernel
theorem dX9_undo_4 : decode cX9_undo 4 = .ok (.invokevirtual 290, 3) := by decide +kernel
theorem dX9_undo_7 : decode cX9_undo 7 = .ok (.istore_n 1, 1) := by decide +kernel
theorem dX9_undo_8 : decode cX9_undo 8 = .ok (.iload_n 1, 1) := by decide +kernel
theorem dX9_undo_9 : decode cX9_undo 9 = .ok (.iconst (-1), 1) := by decide +kernel
theorem dX9_undo_10 : decode cX9_undo 10 = .ok (.if_icmp .ne 5, 3) := by decide +kernel
theorem dX9_undo_13 : decode cX9_undo 13 = .ok (.iconst 0, 1) := by decide +kernel
theorem dX9_undo_14 : decode cX9_undo 14 = .ok (.ireturn, 1) := by decide +kernel
theorem dX9_undo_15 : decode cX9_undo 15 = .ok (.aload_n 0, 1) := by decide +kernel
theorem dX9_undo_16 : decode cX9_undo 16 = .ok (.getfield 26, 3) := by decide +kernel
theorem dX9_undo_19 : decode cX9_undo 19 = .ok (.getfield 293, 3) := by decide +kernel
theorem dX9_undo_22 : decode cX9_undo 22 = .ok (.iload_n 1, 1) := by decide +kernel
theorem dX9_undo_23 : decode cX9_undo 23 = .ok (.iaload, 1) := by decide +kernel
theorem dX9_undo_24 : decode cX9_undo 24 = .ok (.istore_n 2, 1) := by decide +kernel
theorem dX9_undo_25 : decode cX9_undo 25 = .ok (.aload_n 0, 1) := by decide +kernel
theorem dX9_undo_26 : decode cX9_undo 26 = .ok (.getfield 26, 3) := by decide +kernel
theorem dX9_undo_29 : decode cX9_undo 29 = .ok (.getfield 296, 3) := by decide +kernel
theorem dX9_undo_32 : decode cX9_undo 32 = .ok (.iload_n 1, 1) := by decide +kernel
theorem dX9_undo_33 : decode cX9_undo 33 = .ok (.iaload, 1) := by decide +kernel
theorem dX9_undo_34 : decode cX9_undo 34 = .ok (.iconst (-1), 1) := by decide +kernel
theorem dX9_undo_35 : decode cX9_undo 35 = .ok (.if_icmp .ne 26, 3) := by decide +kernel
theorem dX9_undo_38 : decode cX9_undo 38 = .ok (.aload_n 0, 1) := by decide +kernel
theorem dX9_undo_39 : decode cX9_undo 39 = .ok (.getfield 10, 3) := by decide +kernel
theorem dX9_undo_42 : decode cX9_undo 42 = .ok (.getfield 79, 3) := by decide +kernel
theorem dX9_undo_45 : decode cX9_undo 45 = .ok (.iload_n 2, 1) := by decide +kernel
theorem dX9_undo_46 : decode cX9_undo 46 = .ok (.aload_n 0, 1) := by decide +kernel
theorem dX9_undo_47 : decode cX9_undo 47 = .ok (.getfield 26, 3) := by decide +kernel
theorem dX9_undo_50 : decode cX9_undo 50 = .ok (.getfield 297, 3) := by decide +kernel
theorem dX9_undo_53 : decode cX9_undo 53 = .ok (.iload_n 1, 1) := by decide +kernel
theorem dX9_undo_54 : decode cX9_undo 54 = .ok (.iaload, 1) := by decide +kernel
theorem dX9_undo_55 : decode cX9_undo 55 = .ok (.invokevirtual 298, 3) := by decide +kernel
theorem dX9_undo_58 : decode cX9_undo 58 = .ok (.goto 23, 3) := by decide +kernel
theorem dX9_undo_61 : decode cX9_undo 61 = .ok (.aload_n 0, 1) := by decide +kernel
theorem dX9_undo_62 : decode cX9_undo 62 = .ok (.getfield 10, 3) := by decide +kernel
theorem dX9_undo_65 : decode cX9_undo 65 = .ok (.getfield 79, 3) := by decide +kernel
theorem dX9_undo_68 : decode cX9_undo 68 = .ok (.iload_n 2, 1) := by decide +kernel
theorem dX9_undo_69 : decode cX9_undo 69 = .ok (.aload_n 0, 1) := by decide +kernel
theorem dX9_undo_70 : decode cX9_undo 70 = .ok (.getfield 26, 3) := by decide +kernel
theorem dX9_undo_73 : decode cX9_undo 73 = .ok (.getfield 296, 3) := by decide +kernel
theorem dX9_undo_76 : decode cX9_undo 76 = .ok (.iload_n 1, 1) := by decide +kernel
theorem dX9_undo_77 : decode cX9_undo 77 = .ok (.iaload, 1) := by decide +kernel
theorem dX9_undo_78 : decode cX9_undo 78 = .ok (.invokevirtual 145, 3) := by decide +kernel
theorem dX9_undo_81 : decode cX9_undo 81 = .ok (.aload_n 0, 1) := by decide +kernel
theorem dX9_undo_82 : decode cX9_undo 82 = .ok (.getfield 10, 3) := by decide +kernel
theorem dX9_undo_85 : decode cX9_undo 85 = .ok (.getfield 123, 3) := by decide +kernel
theorem dX9_undo_88 : decode cX9_undo 88 = .ok (.aload_n 0, 1) := by decide +kernel
theorem dX9_undo_89 : decode cX9_undo 89 = .ok (.getfield 26, 3) := by decide +kernel
theorem dX9_undo_92 : decode cX9_undo 92 = .ok (.getfield 301, 3) := by decide +kernel
theorem dX9_undo_95 : decode cX9_undo 95 = .ok (.iload_n 1, 1) := by decide +kernel
theorem dX9_undo_96 : decode cX9_undo 96 = .ok (.iaload, 1) := by decide +kernel
theorem dX9_undo_97 : decode cX9_undo 97 = .ok (.invokevirtual 304, 3) := by decide +kernel
theorem dX9_undo_100 : decode cX9_undo 100 = .ok (.aload_n 0, 1) := by decide +kernel
theorem dX9_undo_101 : decode cX9_undo 101 = .ok (.getfield 26, 3) := by decide +kernel
theorem dX9_undo_104 : decode cX9_undo 104 = .ok (.invokevirtual 307, 3) := by decide +kernel
theorem dX9_undo_107 : decode cX9_undo 107 = .ok (.iconst 1, 1) := by decide +kernel
theorem dX9_undo_108 : decode cX9_undo 108 = .ok (.ireturn, 1) := by decide +kernel
theorem dX9_image_0 : decode cX9_image 0 = .ok (.iload_n 1, 1) := by decide +kernel
theorem dX9_image_1 : decode cX9_image 1 = .ok (.ifCond .eq 21, 3) := by decide +kernel
theorem dX9_image_4 : decode cX9_image 4 = .ok (.aload_n 0, 1) := by decide +kernel
theorem dX9_image_5 : decode cX9_image 5 = .ok (.getfield 16, 3) := by decide +kernel
theorem dX9_image_8 : decode cX9_image 8 = .ok (.aload_n 0, 1) := by decide +kernel
theorem dX9_image_9 : decode cX9_image 9 = .ok (.getfield 10, 3) := by decide +kernel
theorem dX9_image_12 : decode cX9_image 12 = .ok (.invokevirtual 310, 3) := by decide +kernel
theorem dX9_image_15 : decode cX9_image 15 = .ok (.aload_n 0, 1) := by decide +kernel
theorem dX9_image_16 : decode cX9_image 16 = .ok (.iconst 1, 1) := by decide +kernel
theorem dX9_image_17 : decode cX9_image 17 = .ok (.putfield 19, 3) := by decide +kernel
theorem dX9_image_20 : decode cX9_image 20 = .ok (.iconst 1, 1) := by decide +kernel
theorem dX9_image_21 : decode cX9_image 21 = .ok (.ireturn, 1) := by decide +kernel
theorem dX9_image_22 : decode cX9_image 22 = .ok (.aload_n 0, 1) := by decide +kernel
theorem dX9_image_23 : decode cX9_image 23 = .ok (.getfield 19, 3) := by decide +kernel
theorem dX9_image_26 : decode cX9_image 26 = .ok (.ifCond .ne 5, 3) := by decide +kernel
theorem dX9_image_29 : decode cX9_image 29 = .ok (.iconst 0, 1) := by decide +kernel
theorem dX9_image_30 : decode cX9_image 30 = .ok (.ireturn, 1) := by decide +kernel
theorem dX9_image_31 : decode cX9_image 31 = .ok (.aload_n 0, 1) := by decide +kernel
theorem dX9_image_32 : decode cX9_image 32 = .ok (.getfield 10, 3) := by decide +kernel
theorem dX9_image_35 : decode cX9_image 35 = .ok (.aload_n 0, 1) := by decide +kernel
theorem dX9_image_36 : decode cX9_image 36 = .ok (.getfield 16, 3) := by decide +kernel
theorem dX9_image_39 : decode cX9_image 39 = .ok (.invokevirtual 310, 3) := by decide +kernel
theorem dX9_image_42 : decode cX9_image 42 = .ok (.aload_n 0, 1) := by decide +kernel
theorem dX9_image_43 : decode cX9_image 43 = .ok (.getfield 26, 3) := by decide +kernel
theorem dX9_image_46 : decode cX9_image 46 = .ok (.invokevirtual 76, 3) := by decide +kernel
theorem dX9_image_49 : decode cX9_image 49 = .ok (.iconst 1, 1) := by decide +kernel
theorem dX9_image_50 : decode cX9_image 50 = .ok (.ireturn, 1) := by decide +kernel
theorem dX9_look_0 : decode cX9_look 0 = .ok (.iload_n 1, 1) := by decide +kernel
theorem dX9_look_1 : decode cX9_look 1 = .ok (.tableswitch 188 0 10 #[59, 70, 81, 103, 114, 125, 136, 147, 158, 169, 177], 59) := by decide +kernel
theorem dX9_look_60 : decode cX9_look 60 = .ok (.aload_n 0, 1) := by decide +kernel
theorem dX9_look_61 : decode cX9_look 61 = .ok (.getfield 10, 3) := by decide +kernel
theorem dX9_look_64 : decode cX9_look 64 = .ok (.getfield 79, 3) := by decide +kernel
theorem dX9_look_67 : decode cX9_look 67 = .ok (.getfield 82, 3) := by decide +kernel
theorem dX9_look_70 : decode cX9_look 70 = .ok (.ireturn, 1) := by decide +kernel
theorem dX9_look_71 : decode cX9_look 71 = .ok (.aload_n 0, 1) := by decide +kernel
theorem dX9_look_72 : decode cX9_look 72 = .ok (.getfield 10, 3) := by decide +kernel
theorem dX9_look_75 : decode cX9_look 75 = .ok (.getfield 79, 3) := by decide +kernel
theorem dX9_look_78 : decode cX9_look 78 = .ok (.getfield 89, 3) := by decide +kernel
theorem dX9_look_81 : decode cX9_look 81 = .ok (.ireturn, 1) := by decide +kernel
theorem dX9_look_82 : decode cX9_look 82 = .ok (.aload_n 0, 1) := by decide +kernel
theorem dX9_look_83 : decode cX9_look 83 = .ok (.getfield 10, 3) := by decide +kernel
theorem dX9_look_86 : decode cX9_look 86 = .ok (.getfield 79, 3) := by decide +kernel
theorem dX9_look_89 : decode cX9_look 89 = .ok (.getfield 89, 3) := by decide +kernel
theorem dX9_look_92 : decode cX9_look 92 = .ok (.aload_n 0, 1) := by decide +kernel
theorem dX9_look_93 : decode cX9_look 93 = .ok (.getfield 10, 3) := by decide +kernel
theorem dX9_look_96 : decode cX9_look 96 = .ok (.getfield 79, 3) := by decide +kernel
theorem dX9_look_99 : decode cX9_look 99 = .ok (.invokevirtual 227, 3) := by decide +kernel
theorem dX9_look_102 : decode cX9_look 102 = .ok (.isub, 1) := by decide +kernel
theorem dX9_look_103 : decode cX9_look 103 = .ok (.ireturn, 1) := by decide +kernel
theorem dX9_look_104 : decode cX9_look 104 = .ok (.aload_n 0, 1) := by decide +kernel
theorem dX9_look_105 : decode cX9_look 105 = .ok (.getfield 10, 3) := by decide +kernel
theorem dX9_look_108 : decode cX9_look 108 = .ok (.getfield 123, 3) := by decide +kernel
theorem dX9_look_111 : decode cX9_look 111 = .ok (.getfield 313, 3) := by decide +kernel
theorem dX9_look_114 : decode cX9_look 114 = .ok (.ireturn, 1) := by decide +kernel
theorem dX9_look_115 : decode cX9_look 115 = .ok (.aload_n 0, 1) := by decide +kernel
theorem dX9_look_116 : decode cX9_look 116 = .ok (.getfield 10, 3) := by decide +kernel
theorem dX9_look_119 : decode cX9_look 119 = .ok (.getfield 123, 3) := by decide +kernel
theorem dX9_look_122 : decode cX9_look 122 = .ok (.getfield 316, 3) := by decide +kernel
theorem dX9_look_125 : decode cX9_look 125 = .ok (.ireturn, 1) := by decide +kernel
theorem dX9_look_126 : decode cX9_look 126 = .ok (.aload_n 0, 1) := by decide +kernel
theorem dX9_look_127 : decode cX9_look 127 = .ok (.getfield 10, 3) := by decide +kernel
theorem dX9_look_130 : decode cX9_look 130 = .ok (.getfield 123, 3) := by decide +kernel
theorem dX9_look_133 : decode cX9_look 133 = .ok (.getfield 319, 3) := by decide +kernel
theorem dX9_look_136 : decode cX9_look 136 = .ok (.ireturn, 1) := by decide +kernel
theorem dX9_look_137 : decode cX9_look 137 = .ok (.aload_n 0, 1) := by decide +kernel
theorem dX9_look_138 : decode cX9_look 138 = .ok (.getfield 10, 3) := by decide +kernel
theorem dX9_look_141 : decode cX9_look 141 = .ok (.getfield 123, 3) := by decide +kernel
theorem dX9_look_144 : decode cX9_look 144 = .ok (.getfield 189, 3) := by decide +kernel
theorem dX9_look_147 : decode cX9_look 147 = .ok (.ireturn, 1) := by decide +kernel
theorem dX9_look_148 : decode cX9_look 148 = .ok (.aload_n 0, 1) := by decide +kernel
theorem dX9_look_149 : decode cX9_look 149 = .ok (.getfield 10, 3) := by decide +kernel
theorem dX9_look_152 : decode cX9_look 152 = .ok (.getfield 123, 3) := by decide +kernel
theorem dX9_look_155 : decode cX9_look 155 = .ok (.getfield 322, 3) := by decide +kernel
theorem dX9_look_158 : decode cX9_look 158 = .ok (.ireturn, 1) := by decide +kernel
theorem dX9_look_159 : decode cX9_look 159 = .ok (.aload_n 0, 1) := by decide +kernel
theorem dX9_look_160 : decode cX9_look 160 = .ok (.getfield 10, 3) := by decide +kernel
theorem dX9_look_163 : decode cX9_look 163 = .ok (.getfield 170, 3) := by decide +kernel
theorem dX9_look_166 : decode cX9_look 166 = .ok (.getfield 325, 3) := by decide +kernel
theorem dX9_look_169 : decode cX9_look 169 = .ok (.ireturn, 1) := by decide +kernel
theorem dX9_look_170 : decode cX9_look 170 = .ok (.aload_n 0, 1) := by decide +kernel
theorem dX9_look_171 : decode cX9_look 171 = .ok (.getfield 26, 3) := by decide +kernel
theorem dX9_look_174 : decode cX9_look 174 = .ok (.getfield 326, 3) := by decide +kernel
theorem dX9_look_177 : decode cX9_look 177 = .ok (.ireturn, 1) := by decide +kernel
theorem dX9_look_178 : decode cX9_look 178 = .ok (.aload_n 0, 1) := by decide +kernel
theorem dX9_look_179 : decode cX9_look 179 = .ok (.getfield 10, 3) := by decide +kernel
theorem dX9_look_182 : decode cX9_look 182 = .ok (.getfield 214, 3) := by decide +kernel
theorem dX9_look_185 : decode cX9_look 185 = .ok (.getfield 221, 3) := by decide +kernel
theorem dX9_look_188 : decode cX9_look 188 = .ok (.ireturn, 1) := by decide +kernel
theorem dX9_look_189 : decode cX9_look 189 = .ok (.iconst (-1), 1) := by decide +kernel
theorem dX9_look_190 : decode cX9_look 190 = .ok (.ireturn, 1) := by decide +kernel
theorem dX9_refuse_0 : decode cX9_refuse 0 = .ok (.aload_n 0, 1) := by decide +kernel
theorem dX9_refuse_1 : decode cX9_refuse 1 = .ok (.iload_n 1, 1) := by decide +kernel
theorem dX9_refuse_2 : decode cX9_refuse 2 = .ok (.putfield 45, 3) := by decide +kernel
theorem dX9_refuse_5 : decode cX9_refuse 5 = .ok (.aload_n 0, 1) := by decide +kernel
theorem dX9_refuse_6 : decode cX9_refuse 6 = .ok (.iload_n 2, 1) := by decide +kernel
theorem dX9_refuse_7 : decode cX9_refuse 7 = .ok (.putfield 48, 3) := by decide +kernel
theorem dX9_refuse_10 : decode cX9_refuse 10 = .ok (.return_, 1) := by decide +kernel
theorem dX9_punch_0 : decode cX9_punch 0 = .ok (.bipush 24, 2) := by decide +kernel
theorem dX9_punch_2 : decode cX9_punch 2 = .ok (.istore_n 2, 1) := by decide +kernel
theorem dX9_punch_3 : decode cX9_punch 3 = .ok (.iload_n 2, 1) := by decide +kernel
theorem dX9_punch_4 : decode cX9_punch 4 = .ok (.ifCond .lt 44, 3) := by decide +kernel
theorem dX9_punch_7 : decode cX9_punch 7 = .ok (.aload_n 0, 1) := by decide +kernel
theorem dX9_punch_8 : decode cX9_punch 8 = .ok (.getfield 34, 3) := by decide +kernel
theorem dX9_punch_11 : decode cX9_punch 11 = .ok (.aload_n 0, 1) := by decide +kernel
theorem dX9_punch_12 : decode cX9_punch 12 = .ok (.getfield 30, 3) := by decide +kernel
theorem dX9_punch_15 : decode cX9_punch 15 = .ok (.arraylength, 1) := by decide +kernel
theorem dX9_punch_16 : decode cX9_punch 16 = .ok (.if_icmp .ge 26, 3) := by decide +kernel
theorem dX9_punch_19 : decode cX9_punch 19 = .ok (.aload_n 0, 1) := by decide +kernel
theorem dX9_punch_20 : decode cX9_punch 20 = .ok (.getfield 30, 3) := by decide +kernel
theorem dX9_punch_23 : decode cX9_punch 23 = .ok (.aload_n 0, 1) := by decide +kernel
theorem dX9_punch_24 : decode cX9_punch 24 = .ok (.getfield 34, 3) := by decide +kernel
theorem dX9_punch_27 : decode cX9_punch 27 = .ok (.iload_n 1, 1) := by decide +kernel
theorem dX9_punch_28 : decode cX9_punch 28 = .ok (.iload_n 2, 1) := by decide +kernel
theorem dX9_punch_29 : decode cX9_punch 29 = .ok (.ishr, 1) := by decide +kernel
theorem dX9_punch_30 : decode cX9_punch 30 = .ok (.i2b, 1) := by decide +kernel
theorem dX9_punch_31 : decode cX9_punch 31 = .ok (.bastore, 1) := by decide +kernel
theorem dX9_punch_32 : decode cX9_punch 32 = .ok (.aload_n 0, 1) := by decide +kernel
theorem dX9_punch_33 : decode cX9_punch 33 = .ok (.dup, 1) := by decide +kernel
theorem dX9_punch_34 : decode cX9_punch 34 = .ok (.getfield 34, 3) := by decide +kernel
theorem dX9_punch_37 : decode cX9_punch 37 = .ok (.iconst 1, 1) := by decide +kernel
theorem dX9_punch_38 : decode cX9_punch 38 = .ok (.iadd, 1) := by decide +kernel
theorem dX9_punch_39 : decode cX9_punch 39 = .ok (.putfield 34, 3) := by decide +kernel
theorem dX9_punch_42 : decode cX9_punch 42 = .ok (.iinc 2 (-8), 3) := by decide +kernel
theorem dX9_punch_45 : decode cX9_punch 45 = .ok (.goto (-42), 3) := by decide +kernel
theorem dX9_punch_48 : decode cX9_punch 48 = .ok (.return_, 1) := by decide +kernel
theorem dX9_judge_0 : decode cX9_judge 0 = .ok (.aload_n 0, 1) := by decide +kernel
theorem dX9_judge_1 : decode cX9_judge 1 = .ok (.getfield 10, 3) := by decide +kernel
theorem dX9_judge_4 : decode cX9_judge 4 = .ok (.getfield 79, 3) := by decide +kernel
theorem dX9_judge_7 : decode cX9_judge 7 = .ok (.astore_n 2, 1) := by decide +kernel
theorem dX9_judge_8 : decode cX9_judge 8 = .ok (.aload_n 0, 1) := by decide +kernel
theorem dX9_judge_9 : decode cX9_judge 9 = .ok (.getfield 10, 3) := by decide +kernel
theorem dX9_judge_12 : decode cX9_judge 12 = .ok (.getfield 123, 3) := by decide +kernel
theorem dX9_judge_15 : decode cX9_judge 15 = .ok (.astore_n 3, 1) := by decide +kernel
theorem dX9_judge_16 : decode cX9_judge 16 = .ok (.aload_n 0, 1) := by decide +kernel
theorem dX9_judge_17 : decode cX9_judge 17 = .ok (.getfield 10, 3) := by decide +kernel
theorem dX9_judge_20 : decode cX9_judge 20 = .ok (.getfield 214, 3) := by decide +kernel
theorem dX9_judge_23 : decode cX9_judge 23 = .ok (.astore 4, 2) := by decide +kernel
theorem dX9_judge_25 : decode cX9_judge 25 = .ok (.aload 4, 2) := by decide +kernel
theorem dX9_judge_27 : decode cX9_judge 27 = .ok (.sipush 20005, 3) := by decide +kernel
theorem dX9_judge_30 : decode cX9_judge 30 = .ok (.aload_n 2, 1) := by decide +kernel
theorem dX9_judge_31 : decode cX9_judge 31 = .ok (.invokevirtual 179, 3) := by decide +kernel
theorem dX9_judge_34 : decode cX9_judge 34 = .ok (.invokevirtual 329, 3) := by decide +kernel
theorem dX9_judge_37 : decode cX9_judge 37 = .ok (.aload 4, 2) := by decide +kernel
theorem dX9_judge_39 : decode cX9_judge 39 = .ok (.sipush 20006, 3) := by decide +kernel
theorem dX9_judge_42 : decode cX9_judge 42 = .ok (.aload_n 2, 1) := by decide +kernel
theorem dX9_judge_43 : decode cX9_judge 43 = .ok (.getfield 89, 3) := by decide +kernel
theorem dX9_judge_46 : decode cX9_judge 46 = .ok (.aload_n 2, 1) := by decide +kernel
theorem dX9_judge_47 : decode cX9_judge 47 = .ok (.invokevirtual 227, 3) := by decide +kernel
theorem dX9_judge_50 : decode cX9_judge 50 = .ok (.isub, 1) := by decide +kernel
theorem dX9_judge_51 : decode cX9_judge 51 = .ok (.invokevirtual 329, 3) := by decide +kernel
theorem dX9_judge_54 : decode cX9_judge 54 = .ok (.aload 4, 2) := by decide +kernel
theorem dX9_judge_56 : decode cX9_judge 56 = .ok (.sipush 20007, 3) := by decide +kernel
theorem dX9_judge_59 : decode cX9_judge 59 = .ok (.aload_n 3, 1) := by decide +kernel
theorem dX9_judge_60 : decode cX9_judge 60 = .ok (.getfield 316, 3) := by decide +kernel
theorem dX9_judge_63 : decode cX9_judge 63 = .ok (.invokevirtual 329, 3) := by decide +kernel
theorem dX9_judge_66 : decode cX9_judge 66 = .ok (.aload 4, 2) := by decide +kernel
theorem dX9_judge_68 : decode cX9_judge 68 = .ok (.sipush 20008, 3) := by decide +kernel
theorem dX9_judge_71 : decode cX9_judge 71 = .ok (.aload_n 3, 1) := by decide +kernel
theorem dX9_judge_72 : decode cX9_judge 72 = .ok (.getfield 319, 3) := by decide +kernel
theorem dX9_judge_75 : decode cX9_judge 75 = .ok (.invokevirtual 329, 3) := by decide +kernel
theorem dX9_judge_78 : decode cX9_judge 78 = .ok (.aload 4, 2) := by decide +kernel
theorem dX9_judge_80 : decode cX9_judge 80 = .ok (.sipush 20009, 3) := by decide +kernel
theorem dX9_judge_83 : decode cX9_judge 83 = .ok (.aload_n 2, 1) := by decide +kernel
theorem dX9_judge_84 : decode cX9_judge 84 = .ok (.invokevirtual 332, 3) := by decide +kernel
theorem dX9_judge_87 : decode cX9_judge 87 = .ok (.ifCond .eq 7, 3) := by decide +kernel
theorem dX9_judge_90 : decode cX9_judge 90 = .ok (.iconst 1, 1) := by decide +kernel
theorem dX9_judge_91 : decode cX9_judge 91 = .ok (.goto 4, 3) := by decide +kernel
theorem dX9_judge_94 : decode cX9_judge 94 = .ok (.iconst 0, 1) := by decide +kernel
theorem dX9_judge_95 : decode cX9_judge 95 = .ok (.invokevirtual 329, 3) := by decide +kernel
theorem dX9_judge_98 : decode cX9_judge 98 = .ok (.aload 4, 2) := by decide +kernel
theorem dX9_judge_100 : decode cX9_judge 100 = .ok (.sipush 20010, 3) := by decide +kernel
theorem dX9_judge_103 : decode cX9_judge 103 = .ok (.aload_n 3, 1) := by decide +kernel
theorem dX9_judge_104 : decode cX9_judge 104 = .ok (.getfield 189, 3) := by decide +kernel
theorem dX9_judge_107 : decode cX9_judge 107 = .ok (.invokevirtual 329, 3) := by decide +kernel
theorem dX9_judge_110 : decode cX9_judge 110 = .ok (.aload 4, 2) := by decide +kernel
theorem dX9_judge_112 : decode cX9_judge 112 = .ok (.sipush 20011, 3) := by decide +kernel
theorem dX9_judge_115 : decode cX9_judge 115 = .ok (.aload_n 3, 1) := by decide +kernel
theorem dX9_judge_116 : decode cX9_judge 116 = .ok (.getfield 313, 3) := by decide +kernel
theorem dX9_judge_119 : decode cX9_judge 119 = .ok (.invokevirtual 329, 3) := by decide +kernel
theorem dX9_judge_122 : decode cX9_judge 122 = .ok (.aload 4, 2) := by decide +kernel
theorem dX9_judge_124 : decode cX9_judge 124 = .ok (.iload_n 1, 1) := by decide +kernel
theorem dX9_judge_125 : decode cX9_judge 125 = .ok (.invokevirtual 208, 3) := by decide +kernel
theorem dX9_judge_128 : decode cX9_judge 128 = .ok (.istore 5, 2) := by decide +kernel
theorem dX9_judge_130 : decode cX9_judge 130 = .ok (.iload 5, 2) := by decide +kernel
theorem dX9_judge_132 : decode cX9_judge 132 = .ok (.iconst (-1), 1) := by decide +kernel
theorem dX9_judge_133 : decode cX9_judge 133 = .ok (.if_icmp .eq 13, 3) := by decide +kernel
theorem dX9_judge_136 : decode cX9_judge 136 = .ok (.aload_n 3, 1) := by decide +kernel
theorem dX9_judge_137 : decode cX9_judge 137 = .ok (.dup, 1) := by decide +kernel
theorem dX9_judge_138 : decode cX9_judge 138 = .ok (.getfield 322, 3) := by decide +kernel
theorem dX9_judge_141 : decode cX9_judge 141 = .ok (.iconst 1, 1) := by decide +kernel
theorem dX9_judge_142 : decode cX9_judge 142 = .ok (.iadd, 1) := by decide +kernel
theorem dX9_judge_143 : decode cX9_judge 143 = .ok (.putfield 322, 3) := by decide +kernel
theorem dX9_judge_146 : decode cX9_judge 146 = .ok (.iload 5, 2) := by decide +kernel
theorem dX9_judge_148 : decode cX9_judge 148 = .ok (.ireturn, 1) := by decide +kernel
theorem dX9_isPlace_0 : decode cX9_isPlace 0 = .ok (.iload_n 0, 1) := by decide +kernel
theorem dX9_isPlace_1 : decode cX9_isPlace 1 = .ok (.ifCond .lt 13, 3) := by decide +kernel
theorem dX9_isPlace_4 : decode cX9_isPlace 4 = .ok (.iload_n 0, 1) := by decide +kernel
theorem dX9_isPlace_5 : decode cX9_isPlace 5 = .ok (.bipush 60, 2) := by decide +kernel
theorem dX9_isPlace_7 : decode cX9_isPlace 7 = .ok (.if_icmp .ge 7, 3) := by decide +kernel
theorem dX9_isPlace_10 : decode cX9_isPlace 10 = .ok (.iconst 1, 1) := by decide +kernel
theorem dX9_isPlace_11 : decode cX9_isPlace 11 = .ok (.goto 4, 3) := by decide +kernel
theorem dX9_isPlace_14 : decode cX9_isPlace 14 = .ok (.iconst 0, 1) := by decide +kernel
theorem dX9_isPlace_15 : decode cX9_isPlace 15 = .ok (.ireturn, 1) := by decide +kernel
theorem dX9_costOf_0 : decode cX9_costOf 0 = .ok (.iload_n 0, 1) := by decide +kernel
theorem dX9_costOf_1 : decode cX9_costOf 1 = .ok (.bipush 10, 2) := by decide +kernel
theorem dX9_costOf_3 : decode cX9_costOf 3 = .ok (.isub, 1) := by decide +kernel
theorem dX9_costOf_4 : decode cX9_costOf 4 = .ok (.iload_n 1, 1) := by decide +kernel
theorem dX9_costOf_5 : decode cX9_costOf 5 = .ok (.isub, 1) := by decide +kernel
theorem dX9_costOf_6 : decode cX9_costOf 6 = .ok (.invokestatic 336, 3) := by decide +kernel
theorem dX9_costOf_9 : decode cX9_costOf 9 = .ok (.iload_n 2, 1) := by decide +kernel
theorem dX9_costOf_10 : decode cX9_costOf 10 = .ok (.iadd, 1) := by decide +kernel
theorem dX9_costOf_11 : decode cX9_costOf 11 = .ok (.ireturn, 1) := by decide +kernel
