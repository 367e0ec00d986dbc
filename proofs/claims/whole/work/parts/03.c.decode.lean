theorem dX5_isFree_0 : decode cX5_isFree 0 = .ok (.iconst 0, 1) := by decide +kernel
theorem dX5_isFree_1 : decode cX5_isFree 1 = .ok (.istore_n 2, 1) := by decide +kernel
theorem dX5_isFree_2 : decode cX5_isFree 2 = .ok (.iload_n 2, 1) := by decide +kernel
theorem dX5_isFree_3 : decode cX5_isFree 3 = .ok (.aload_n 0, 1) := by decide +kernel
theorem dX5_isFree_4 : decode cX5_isFree 4 = .ok (.getfield 18, 3) := by decide +kernel
theorem dX5_isFree_7 : decode cX5_isFree 7 = .ok (.iload_n 1, 1) := by decide +kernel
theorem dX5_isFree_8 : decode cX5_isFree 8 = .ok (.iaload, 1) := by decide +kernel
theorem dX5_isFree_9 : decode cX5_isFree 9 = .ok (.if_icmp .ge 34, 3) := by decide +kernel
theorem dX5_isFree_12 : decode cX5_isFree 12 = .ok (.aload_n 0, 1) := by decide +kernel
theorem dX5_isFree_13 : decode cX5_isFree 13 = .ok (.aload_n 0, 1) := by decide +kernel
theorem dX5_isFree_14 : decode cX5_isFree 14 = .ok (.getfield 34, 3) := by decide +kernel
theorem dX5_isFree_17 : decode cX5_isFree 17 = .ok (.iload_n 1, 1) := by decide +kernel
theorem dX5_isFree_18 : decode cX5_isFree 18 = .ok (.iaload, 1) := by decide +kernel
theorem dX5_isFree_19 : decode cX5_isFree 19 = .ok (.iload_n 2, 1) := by decide +kernel
theorem dX5_isFree_20 : decode cX5_isFree 20 = .ok (.iadd, 1) := by decide +kernel
theorem dX5_isFree_21 : decode cX5_isFree 21 = .ok (.invokevirtual 87, 3) := by decide +kernel
theorem dX5_isFree_24 : decode cX5_isFree 24 = .ok (.aload_n 0, 1) := by decide +kernel
theorem dX5_isFree_25 : decode cX5_isFree 25 = .ok (.getfield 37, 3) := by decide +kernel
theorem dX5_isFree_28 : decode cX5_isFree 28 = .ok (.iload_n 1, 1) := by decide +kernel
theorem dX5_isFree_29 : decode cX5_isFree 29 = .ok (.iaload, 1) := by decide +kernel
theorem dX5_isFree_30 : decode cX5_isFree 30 = .ok (.iconst 1, 1) := by decide +kernel
theorem dX5_isFree_31 : decode cX5_isFree 31 = .ok (.iadd, 1) := by decide +kernel
theorem dX5_isFree_32 : decode cX5_isFree 32 = .ok (.if_icmp .le 5, 3) := by decide +kernel
theorem dX5_isFree_35 : decode cX5_isFree 35 = .ok (.iconst 0, 1) := by decide +kernel
theorem dX5_isFree_36 : decode cX5_isFree 36 = .ok (.ireturn, 1) := by decide +kernel
theorem dX5_isFree_37 : decode cX5_isFree 37 = .ok (.iinc 2 1, 3) := by decide +kernel
theorem dX5_isFree_40 : decode cX5_isFree 40 = .ok (.goto (-38), 3) := by decide +kernel
theorem dX5_isFree_43 : decode cX5_isFree 43 = .ok (.iconst 1, 1) := by decide +kernel
theorem dX5_isFree_44 : decode cX5_isFree 44 = .ok (.ireturn, 1) := by decide +kernel
theorem dX5_leastFree_0 : decode cX5_leastFree 0 = .ok (.iconst 0, 1) := by decide +kernel
theorem dX5_leastFree_1 : decode cX5_leastFree 1 = .ok (.istore_n 1, 1) := by decide +kernel
theorem dX5_leastFree_2 : decode cX5_leastFree 2 = .ok (.iload_n 1, 1) := by decide +kernel
theorem dX5_leastFree_3 : decode cX5_leastFree 3 = .ok (.aload_n 0, 1) := by decide +kernel
theorem dX5_leastFree_4 : decode cX5_leastFree 4 = .ok (.getfield 15, 3) := by decide +kernel
theorem dX5_leastFree_7 : decode cX5_leastFree 7 = .ok (.if_icmp .ge 29, 3) := by decide +kernel
theorem dX5_leastFree_10 : decode cX5_leastFree 10 = .ok (.aload_n 0, 1) := by decide +kernel
theorem dX5_leastFree_11 : decode cX5_leastFree 11 = .ok (.getfield 31, 3) := by decide +kernel
theorem dX5_leastFree_14 : decode cX5_leastFree 14 = .ok (.iload_n 1, 1) := by decide +kernel
theorem dX5_leastFree_15 : decode cX5_leastFree 15 = .ok (.iaload, 1) := by decide +kernel
theorem dX5_leastFree_16 : decode cX5_leastFree 16 = .ok (.iconst (-1), 1) := by decide +kernel
theorem dX5_leastFree_17 : decode cX5_leastFree 17 = .ok (.if_icmp .ne 13, 3) := by decide +kernel
theorem dX5_leastFree_20 : decode cX5_leastFree 20 = .ok (.aload_n 0, 1) := by decide +kernel
theorem dX5_leastFree_21 : decode cX5_leastFree 21 = .ok (.iload_n 1, 1) := by decide +kernel
theorem dX5_leastFree_22 : decode cX5_leastFree 22 = .ok (.invokevirtual 90, 3) := by decide +kernel
theorem dX5_leastFree_25 : decode cX5_leastFree 25 = .ok (.ifCond .eq 5, 3) := by decide +kernel
theorem dX5_leastFree_28 : decode cX5_leastFree 28 = .ok (.iload_n 1, 1) := by decide +kernel
theorem dX5_leastFree_29 : decode cX5_leastFree 29 = .ok (.ireturn, 1) := by decide +kernel
theorem dX5_leastFree_30 : decode cX5_leastFree 30 = .ok (.iinc 1 1, 3) := by decide +kernel
theorem dX5_leastFree_33 : decode cX5_leastFree 33 = .ok (.goto (-31), 3) := by decide +kernel
theorem dX5_leastFree_36 : decode cX5_leastFree 36 = .ok (.iconst (-1), 1) := by decide +kernel
theorem dX5_leastFree_37 : decode cX5_leastFree 37 = .ok (.ireturn, 1) := by decide +kernel
theorem dX5_isBare_0 : decode cX5_isBare 0 = .ok (.iconst 0, 1) := by decide +kernel
theorem dX5_isBare_1 : decode cX5_isBare 1 = .ok (.istore_n 2, 1) := by decide +kernel
theorem dX5_isBare_2 : decode cX5_isBare 2 = .ok (.iload_n 2, 1) := by decide +kernel
theorem dX5_isBare_3 : decode cX5_isBare 3 = .ok (.aload_n 0, 1) := by decide +kernel
theorem dX5_isBare_4 : decode cX5_isBare 4 = .ok (.getfield 18, 3) := by decide +kernel
theorem dX5_isBare_7 : decode cX5_isBare 7 = .ok (.iload_n 1, 1) := by decide +kernel
theorem dX5_isBare_8 : decode cX5_isBare 8 = .ok (.iaload, 1) := by decide +kernel
theorem dX5_isBare_9 : decode cX5_isBare 9 = .ok (.if_icmp .ge 35, 3) := by decide +kernel
theorem dX5_isBare_12 : decode cX5_isBare 12 = .ok (.aload_n 0, 1) := by decide +kernel
theorem dX5_isBare_13 : decode cX5_isBare 13 = .ok (.aload_n 0, 1) := by decide +kernel
theorem dX5_isBare_14 : decode cX5_isBare 14 = .ok (.getfield 34, 3) := by decide +kernel
theorem dX5_isBare_17 : decode cX5_isBare 17 = .ok (.iload_n 1, 1) := by decide +kernel
theorem dX5_isBare_18 : decode cX5_isBare 18 = .ok (.iaload, 1) := by decide +kernel
theorem dX5_isBare_19 : decode cX5_isBare 19 = .ok (.iload_n 2, 1) := by decide +kernel
theorem dX5_isBare_20 : decode cX5_isBare 20 = .ok (.iadd, 1) := by decide +kernel
theorem dX5_isBare_21 : decode cX5_isBare 21 = .ok (.aload_n 0, 1) := by decide +kernel
theorem dX5_isBare_22 : decode cX5_isBare 22 = .ok (.getfield 37, 3) := by decide +kernel
theorem dX5_isBare_25 : decode cX5_isBare 25 = .ok (.iload_n 1, 1) := by decide +kernel
theorem dX5_isBare_26 : decode cX5_isBare 26 = .ok (.iaload, 1) := by decide +kernel
theorem dX5_isBare_27 : decode cX5_isBare 27 = .ok (.iconst 1, 1) := by decide +kernel
theorem dX5_isBare_28 : decode cX5_isBare 28 = .ok (.iadd, 1) := by decide +kernel
theorem dX5_isBare_29 : decode cX5_isBare 29 = .ok (.invokevirtual 93, 3) := by decide +kernel
theorem dX5_isBare_32 : decode cX5_isBare 32 = .ok (.iconst (-1), 1) := by decide +kernel
theorem dX5_isBare_33 : decode cX5_isBare 33 = .ok (.if_icmp .eq 5, 3) := by decide +kernel
theorem dX5_isBare_36 : decode cX5_isBare 36 = .ok (.iconst 0, 1) := by decide +kernel
theorem dX5_isBare_37 : decode cX5_isBare 37 = .ok (.ireturn, 1) := by decide +kernel
theorem dX5_isBare_38 : decode cX5_isBare 38 = .ok (.iinc 2 1, 3) := by decide +kernel
theorem dX5_isBare_41 : decode cX5_isBare 41 = .ok (.goto (-39), 3) := by decide +kernel
theorem dX5_isBare_44 : decode cX5_isBare 44 = .ok (.iconst 1, 1) := by decide +kernel
theorem dX5_isBare_45 : decode cX5_isBare 45 = .ok (.ireturn, 1) := by decide +kernel
theorem dX5_levelFor_0 : decode cX5_levelFor 0 = .ok (.iconst 0, 1) := by decide +kernel
theorem dX5_levelFor_1 : decode cX5_levelFor 1 = .ok (.istore_n 3, 1) := by decide +kernel
theorem dX5_levelFor_2 : decode cX5_levelFor 2 = .ok (.iconst 0, 1) := by decide +kernel
theorem dX5_levelFor_3 : decode cX5_levelFor 3 = .ok (.istore 4, 2) := by decide +kernel
theorem dX5_levelFor_5 : decode cX5_levelFor 5 = .ok (.iload 4, 2) := by decide +kernel
theorem dX5_levelFor_7 : decode cX5_levelFor 7 = .ok (.aload_n 0, 1) := by decide +kernel
theorem dX5_levelFor_8 : decode cX5_levelFor 8 = .ok (.getfield 18, 3) := by decide +kernel
theorem dX5_levelFor_11 : decode cX5_levelFor 11 = .ok (.iload_n 1, 1) := by decide +kernel
theorem dX5_levelFor_12 : decode cX5_levelFor 12 = .ok (.iaload, 1) := by decide +kernel
theorem dX5_levelFor_13 : decode cX5_levelFor 13 = .ok (.if_icmp .ge 22, 3) := by decide +kernel
theorem dX5_levelFor_16 : decode cX5_levelFor 16 = .ok (.iload_n 3, 1) := by decide +kernel
theorem dX5_levelFor_17 : decode cX5_levelFor 17 = .ok (.aload_n 0, 1) := by decide +kernel
theorem dX5_levelFor_18 : decode cX5_levelFor 18 = .ok (.iload_n 2, 1) := by decide +kernel
theorem dX5_levelFor_19 : decode cX5_levelFor 19 = .ok (.iload 4, 2) := by decide +kernel
theorem dX5_levelFor_21 : decode cX5_levelFor 21 = .ok (.iadd, 1) := by decide +kernel
theorem dX5_levelFor_22 : decode cX5_levelFor 22 = .ok (.invokevirtual 87, 3) := by decide +kernel
theorem dX5_levelFor_25 : decode cX5_levelFor 25 = .ok (.invokestatic 75, 3) := by decide +kernel
theorem dX5_levelFor_28 : decode cX5_levelFor 28 = .ok (.istore_n 3, 1) := by decide +kernel
theorem dX5_levelFor_29 : decode cX5_levelFor 29 = .ok (.iinc 4 1, 3) := by decide +kernel
theorem dX5_levelFor_32 : decode cX5_levelFor 32 = .ok (.goto (-27), 3) := by decide +kernel
theorem dX5_levelFor_35 : decode cX5_levelFor 35 = .ok (.iload_n 3, 1) := by decide +kernel
theorem dX5_levelFor_36 : decode cX5_levelFor 36 = .ok (.ireturn, 1) := by decide +kernel
theorem dX5_wouldStand_0 : decode cX5_wouldStand 0 = .ok (.aload_n 0, 1) := by decide +kernel
theorem dX5_wouldStand_1 : decode cX5_wouldStand 1 = .ok (.iload_n 1, 1) := by decide +kernel
theorem dX5_wouldStand_2 : decode cX5_wouldStand 2 = .ok (.iload_n 2, 1) := by decide +kernel
theorem dX5_wouldStand_3 : decode cX5_wouldStand 3 = .ok (.invokevirtual 96, 3) := by decide +kernel
theorem dX5_wouldStand_6 : decode cX5_wouldStand 6 = .ok (.istore_n 3, 1) := by decide +kernel
theorem dX5_wouldStand_7 : decode cX5_wouldStand 7 = .ok (.aload_n 0, 1) := by decide +kernel
theorem dX5_wouldStand_8 : decode cX5_wouldStand 8 = .ok (.iload_n 2, 1) := by decide +kernel
theorem dX5_wouldStand_9 : decode cX5_wouldStand 9 = .ok (.invokevirtual 87, 3) := by decide +kernel
theorem dX5_wouldStand_12 : decode cX5_wouldStand 12 = .ok (.iload_n 3, 1) := by decide +kernel
theorem dX5_wouldStand_13 : decode cX5_wouldStand 13 = .ok (.if_icmp .ne 7, 3) := by decide +kernel
theorem dX5_wouldStand_16 : decode cX5_wouldStand 16 = .ok (.iconst 1, 1) := by decide +kernel
theorem dX5_wouldStand_17 : decode cX5_wouldStand 17 = .ok (.goto 4, 3) := by decide +kernel
theorem dX5_wouldStand_20 : decode cX5_wouldStand 20 = .ok (.iconst 0, 1) := by decide +kernel
theorem dX5_wouldStand_21 : decode cX5_wouldStand 21 = .ok (.istore 4, 2) := by decide +kernel
theorem dX5_wouldStand_23 : decode cX5_wouldStand 23 = .ok (.aload_n 0, 1) := by decide +kernel
theorem dX5_wouldStand_24 : decode cX5_wouldStand 24 = .ok (.getfield 18, 3) := by decide +kernel
theorem dX5_wouldStand_27 : decode cX5_wouldStand 27 = .ok (.iload_n 1, 1) := by decide +kernel
theorem dX5_wouldStand_28 : decode cX5_wouldStand 28 = .ok (.iaload, 1) := by decide +kernel
theorem dX5_wouldStand_29 : decode cX5_wouldStand 29 = .ok (.lookupswitch 52 #[(1, 27), (2, 30)], 27) := by decide +kernel
theorem dX5_wouldStand_56 : decode cX5_wouldStand 56 = .ok (.iload 4, 2) := by decide +kernel
theorem dX5_wouldStand_58 : decode cX5_wouldStand 58 = .ok (.ireturn, 1) := by decide +kernel
theorem dX5_wouldStand_59 : decode cX5_wouldStand 59 = .ok (.iload 4, 2) := by decide +kernel
theorem dX5_wouldStand_61 : decode cX5_wouldStand 61 = .ok (.ifCond .eq 18, 3) := by decide +kernel
theorem dX5_wouldStand_64 : decode cX5_wouldStand 64 = .ok (.aload_n 0, 1) := by decide +kernel
theorem dX5_wouldStand_65 : decode cX5_wouldStand 65 = .ok (.iload_n 2, 1) := by decide +kernel
theorem dX5_wouldStand_66 : decode cX5_wouldStand 66 = .ok (.iconst 1, 1) := by decide +kernel
theorem dX5_wouldStand_67 : decode cX5_wouldStand 67 = .ok (.iadd, 1) := by decide +kernel
theorem dX5_wouldStand_68 : decode cX5_wouldStand 68 = .ok (.invokevirtual 87, 3) := by decide +kernel
theorem dX5_wouldStand_71 : decode cX5_wouldStand 71 = .ok (.iload_n 3, 1) := by decide +kernel
theorem dX5_wouldStand_72 : decode cX5_wouldStand 72 = .ok (.if_icmp .ne 7, 3) := by decide +kernel
theorem dX5_wouldStand_75 : decode cX5_wouldStand 75 = .ok (.iconst 1, 1) := by decide +kernel
theorem dX5_wouldStand_76 : decode cX5_wouldStand 76 = .ok (.goto 4, 3) := by decide +kernel
theorem dX5_wouldStand_79 : decode cX5_wouldStand 79 = .ok (.iconst 0, 1) := by decide +kernel
theorem dX5_wouldStand_80 : decode cX5_wouldStand 80 = .ok (.ireturn, 1) := by decide +kernel
theorem dX5_wouldStand_81 : decode cX5_wouldStand 81 = .ok (.aload_n 0, 1) := by decide +kernel
theorem dX5_wouldStand_82 : decode cX5_wouldStand 82 = .ok (.iload_n 2, 1) := by decide +kernel
theorem dX5_wouldStand_83 : decode cX5_wouldStand 83 = .ok (.iconst 1, 1) := by decide +kernel
theorem dX5_wouldStand_84 : decode cX5_wouldStand 84 = .ok (.iadd, 1) := by decide +kernel
theorem dX5_wouldStand_85 : decode cX5_wouldStand 85 = .ok (.invokevirtual 87, 3) := by decide +kernel
theorem dX5_wouldStand_88 : decode cX5_wouldStand 88 = .ok (.iload_n 3, 1) := by decide +kernel
theorem dX5_wouldStand_89 : decode cX5_wouldStand 89 = .ok (.if_icmp .eq 19, 3) := by decide +kernel
theorem dX5_wouldStand_92 : decode cX5_wouldStand 92 = .ok (.iload 4, 2) := by decide +kernel
theorem dX5_wouldStand_94 : decode cX5_wouldStand 94 = .ok (.ifCond .eq 18, 3) := by decide +kernel
theorem dX5_wouldStand_97 : decode cX5_wouldStand 97 = .ok (.aload_n 0, 1) := by decide +kernel
theorem dX5_wouldStand_98 : decode cX5_wouldStand 98 = .ok (.iload_n 2, 1) := by decide +kernel
theorem dX5_wouldStand_99 : decode cX5_wouldStand 99 = .ok (.iconst 2, 1) := by decide +kernel
theorem dX5_wouldStand_100 : decode cX5_wouldStand 100 = .ok (.iadd, 1) := by decide +kernel
theorem dX5_wouldStand_101 : decode cX5_wouldStand 101 = .ok (.invokevirtual 87, 3) := by decide +kernel
theorem dX5_wouldStand_104 : decode cX5_wouldStand 104 = .ok (.iload_n 3, 1) := by decide +kernel
theorem dX5_wouldStand_105 : decode cX5_wouldStand 105 = .ok (.if_icmp .ne 7, 3) := by decide +kernel
theorem dX5_wouldStand_108 : decode cX5_wouldStand 108 = .ok (.iconst 1, 1) := by decide +kernel
theorem dX5_wouldStand_109 : decode cX5_wouldStand 109 = .ok (.goto 4, 3) := by decide +kernel
theorem dX5_wouldStand_112 : decode cX5_wouldStand 112 = .ok (.iconst 0, 1) := by decide +kernel
theorem dX5_wouldStand_113 : decode cX5_wouldStand 113 = .ok (.ireturn, 1) := by decide +kernel
theorem dX5_raise_0 : decode cX5_raise 0 = .ok (.aload_n 0, 1) := by decide +kernel
theorem dX5_raise_1 : decode cX5_raise 1 = .ok (.iconst (-1), 1) := by decide +kernel
theorem dX5_raise_2 : decode cX5_raise 2 = .ok (.putfield 49, 3) := by decide +kernel
theorem dX5_raise_5 : decode cX5_raise 5 = .ok (.aload_n 0, 1) := by decide +kernel
theorem dX5_raise_6 : decode cX5_raise 6 = .ok (.iload_n 1, 1) := by decide +kernel
theorem dX5_raise_7 : decode cX5_raise 7 = .ok (.iload_n 2, 1) := by decide +kernel
theorem dX5_raise_8 : decode cX5_raise 8 = .ok (.invokevirtual 99, 3) := by decide +kernel
theorem dX5_raise_11 : decode cX5_raise 11 = .ok (.ifCond .ne 5, 3) := by decide +kernel
theorem dX5_raise_14 : decode cX5_raise 14 = .ok (.iconst 2, 1) := by decide +kernel
theorem dX5_raise_15 : decode cX5_raise 15 = .ok (.ireturn, 1) := by decide +kernel
theorem dX5_raise_16 : decode cX5_raise 16 = .ok (.aload_n 0, 1) := by decide +kernel
theorem dX5_raise_17 : decode cX5_raise 17 = .ok (.getfield 31, 3) := by decide +kernel
theorem dX5_raise_20 : decode cX5_raise 20 = .ok (.iload_n 1, 1) := by decide +kernel
theorem dX5_raise_21 : decode cX5_raise 21 = .ok (.iaload, 1) := by decide +kernel
theorem dX5_raise_22 : decode cX5_raise 22 = .ok (.istore_n 3, 1) := by decide +kernel
theorem dX5_raise_23 : decode cX5_raise 23 = .ok (.aload_n 0, 1) := by decide +kernel
theorem dX5_raise_24 : decode cX5_raise 24 = .ok (.iload_n 1, 1) := by decide +kernel
theorem dX5_raise_25 : decode cX5_raise 25 = .ok (.iload_n 2, 1) := by decide +kernel
theorem dX5_raise_26 : decode cX5_raise 26 = .ok (.invokevirtual 103, 3) := by decide +kernel
theorem dX5_raise_29 : decode cX5_raise 29 = .ok (.aload_n 0, 1) := by decide +kernel
theorem dX5_raise_30 : decode cX5_raise 30 = .ok (.invokevirtual 84, 3) := by decide +kernel
theorem dX5_raise_33 : decode cX5_raise 33 = .ok (.aload_n 0, 1) := by decide +kernel
theorem dX5_raise_34 : decode cX5_raise 34 = .ok (.aload_n 0, 1) := by decide +kernel
theorem dX5_raise_35 : decode cX5_raise 35 = .ok (.invokevirtual 107, 3) := by decide +kernel
theorem dX5_raise_38 : decode cX5_raise 38 = .ok (.putfield 49, 3) := by decide +kernel
theorem dX5_raise_41 : decode cX5_raise 41 = .ok (.aload_n 0, 1) := by decide +kernel
theorem dX5_raise_42 : decode cX5_raise 42 = .ok (.getfield 49, 3) := by decide +kernel
theorem dX5_raise_45 : decode cX5_raise 45 = .ok (.iconst (-1), 1) := by decide +kernel
theorem dX5_raise_46 : decode cX5_raise 46 = .ok (.if_icmp .ne 5, 3) := by decide +kernel
theorem dX5_raise_49 : decode cX5_raise 49 = .ok (.iconst 0, 1) := by decide +kernel
theorem dX5_raise_50 : decode cX5_raise 50 = .ok (.ireturn, 1) := by decide +kernel
theorem dX5_raise_51 : decode cX5_raise 51 = .ok (.aload_n 0, 1) := by decide +kernel
theorem dX5_raise_52 : decode cX5_raise 52 = .ok (.iload_n 1, 1) := by decide +kernel
theorem dX5_raise_53 : decode cX5_raise 53 = .ok (.iload_n 3, 1) := by decide +kernel
theorem dX5_raise_54 : decode cX5_raise 54 = .ok (.invokevirtual 110, 3) := by decide +kernel
theorem dX5_raise_57 : decode cX5_raise 57 = .ok (.iconst 3, 1) := by decide +kernel
theorem dX5_raise_58 : decode cX5_raise 58 = .ok (.ireturn, 1) := by decide +kernel
theorem dX5_drop_0 : decode cX5_drop 0 = .ok (.aload_n 0, 1) := by decide +kernel
theorem dX5_drop_1 : decode cX5_drop 1 = .ok (.iload_n 1, 1) := by decide +kernel
theorem dX5_drop_2 : decode cX5_drop 2 = .ok (.iload_n 2, 1) := by decide +kernel
theorem dX5_drop_3 : decode cX5_drop 3 = .ok (.invokevirtual 113, 3) := by decide +kernel
theorem dX5_drop_6 : decode cX5_drop 6 = .ok (.ifCond .ne 4, 3) := by decide +kernel
theorem dX5_drop_9 : decode cX5_drop 9 = .ok (.return_, 1) := by decide +kernel
theorem dX5_drop_10 : decode cX5_drop 10 = .ok (.aload_n 0, 1) := by decide +kernel
theorem dX5_drop_11 : decode cX5_drop 11 = .ok (.iload_n 1, 1) := by decide +kernel
theorem dX5_drop_12 : decode cX5_drop 12 = .ok (.iload_n 2, 1) := by decide +kernel
theorem dX5_drop_13 : decode cX5_drop 13 = .ok (.invokevirtual 96, 3) := by decide +kernel
theorem dX5_drop_16 : decode cX5_drop 16 = .ok (.istore_n 3, 1) := by decide +kernel
theorem dX5_drop_17 : decode cX5_drop 17 = .ok (.aload_n 0, 1) := by decide +kernel
theorem dX5_drop_18 : decode cX5_drop 18 = .ok (.getfield 31, 3) := by decide +kernel
theorem dX5_drop_21 : decode cX5_drop 21 = .ok (.iload_n 1, 1) := by decide +kernel
theorem dX5_drop_22 : decode cX5_drop 22 = .ok (.iconst (-1), 1) := by decide +kernel
theorem dX5_drop_23 : decode cX5_drop 23 = .ok (.iastore, 1) := by decide +kernel
theorem dX5_drop_24 : decode cX5_drop 24 = .ok (.aload_n 0, 1) := by decide +kernel
theorem dX5_drop_25 : decode cX5_drop 25 = .ok (.getfield 34, 3) := by decide +kernel
theorem dX5_drop_28 : decode cX5_drop 28 = .ok (.iload_n 1, 1) := by decide +kernel
theorem dX5_drop_29 : decode cX5_drop 29 = .ok (.iload_n 2, 1) := by decide +kernel
theorem dX5_drop_30 : decode cX5_drop 30 = .ok (.iastore, 1) := by decide +kernel
theorem dX5_drop_31 : decode cX5_drop 31 = .ok (.aload_n 0, 1) := by decide +kernel
theorem dX5_drop_32 : decode cX5_drop 32 = .ok (.getfield 37, 3) := by decide +kernel
theorem dX5_drop_35 : decode cX5_drop 35 = .ok (.iload_n 1, 1) := by decide +kernel
theorem dX5_drop_36 : decode cX5_drop 36 = .ok (.iload_n 3, 1) := by decide +kernel
theorem dX5_drop_37 : decode cX5_drop 37 = .ok (.iastore, 1) := by decide +kernel
theorem dX5_drop_38 : decode cX5_drop 38 = .ok (.iconst 0, 1) := by decide +kernel
theorem dX5_drop_39 : decode cX5_drop 39 = .ok (.istore 4, 2) := by decide +kernel
theorem dX5_drop_41 : decode cX5_drop 41 = .ok (.iload 4, 2) := by decide +kernel
theorem dX5_drop_43 : decode cX5_drop 43 = .ok (.aload_n 0, 1) := by decide +kernel
theorem dX5_drop_44 : decode cX5_drop 44 = .ok (.getfield 18, 3) := by decide +kernel
theorem dX5_drop_47 : decode cX5_drop 47 = .ok (.iload_n 1, 1) := by decide +kernel
theorem dX5_drop_48 : decode cX5_drop 48 = .ok (.iaload, 1) := by decide +kernel
theorem dX5_drop_49 : decode cX5_drop 49 = .ok (.if_icmp .ge 31, 3) := by decide +kernel
theorem dX5_drop_52 : decode cX5_drop 52 = .ok (.aload_n 0, 1) := by decide +kernel
theorem dX5_drop_53 : decode cX5_drop 53 = .ok (.iload_n 2, 1) := by decide +kernel
theorem dX5_drop_54 : decode cX5_drop 54 = .ok (.iload 4, 2) := by decide +kernel
theorem dX5_drop_56 : decode cX5_drop 56 = .ok (.iadd, 1) := by decide +kernel
theorem dX5_drop_57 : decode cX5_drop 57 = .ok (.iload_n 3, 1) := by decide +kernel
theorem dX5_drop_58 : decode cX5_drop 58 = .ok (.iload_n 1, 1) := by decide +kernel
theorem dX5_drop_59 : decode cX5_drop 59 = .ok (.invokevirtual 116, 3) := by decide +kernel
theorem dX5_drop_62 : decode cX5_drop 62 = .ok (.aload_n 0, 1) := by decide +kernel
theorem dX5_drop_63 : decode cX5_drop 63 = .ok (.getfield 40, 3) := by decide +kernel
theorem dX5_drop_66 : decode cX5_drop 66 = .ok (.iload_n 2, 1) := by decide +kernel
theorem dX5_drop_67 : decode cX5_drop 67 = .ok (.iload 4, 2) := by decide +kernel
theorem dX5_drop_69 : decode cX5_drop 69 = .ok (.iadd, 1) := by decide +kernel
theorem dX5_drop_70 : decode cX5_drop 70 = .ok (.iload_n 3, 1) := by decide +kernel
theorem dX5_drop_71 : decode cX5_drop 71 = .ok (.iconst 1, 1) := by decide +kernel
theorem dX5_drop_72 : decode cX5_drop 72 = .ok (.iadd, 1) := by decide +kernel
theorem dX5_drop_73 : decode cX5_drop 73 = .ok (.iastore, 1) := by decide +kernel
theorem dX5_drop_74 : decode cX5_drop 74 = .ok (.iinc 4 1, 3) := by decide +kernel
theorem dX5_drop_77 : decode cX5_drop 77 = .ok (.goto (-36), 3) := by decide +kernel
theorem dX5_drop_80 : decode cX5_drop 80 = .ok (.return_, 1) := by decide +kernel
theorem dX5_lift_0 : decode cX5_lift 0 = .ok (.aload_n 0, 1) := by decide +kernel
theorem dX5_lift_1 : decode cX5_lift 1 = .ok (.iload_n 1, 1) := by decide +kernel
theorem dX5_lift_2 : decode cX5_lift 2 = .ok (.invokevirtual 81, 3) := by decide +kernel
theorem dX5_lift_5 : decode cX5_lift 5 = .ok (.ifCond .ne 4, 3) := by decide +kernel
theorem dX5_lift_8 : decode cX5_lift 8 = .ok (.return_, 1) := by decide +kernel
theorem dX5_lift_9 : decode cX5_lift 9 = .ok (.iconst 0, 1) := by decide +kernel
theorem dX5_lift_10 : decode cX5_lift 10 = .ok (.istore_n 3, 1) := by decide +kernel
theorem dX5_lift_11 : decode cX5_lift 11 = .ok (.iload_n 3, 1) := by decide +kernel
theorem dX5_lift_12 : decode cX5_lift 12 = .ok (.aload_n 0, 1) := by decide +kernel
theorem dX5_lift_13 : decode cX5_lift 13 = .ok (.getfield 18, 3) := by decide +kernel
theorem dX5_lift_16 : decode cX5_lift 16 = .ok (.iload_n 1, 1) := by decide +kernel
theorem dX5_lift_17 : decode cX5_lift 17 = .ok (.iaload, 1) := by decide +kernel
theorem dX5_lift_18 : decode cX5_lift 18 = .ok (.if_icmp .ge 38, 3) := by decide +kernel
theorem dX5_lift_21 : decode cX5_lift 21 = .ok (.aload_n 0, 1) := by decide +kernel
theorem dX5_lift_22 : decode cX5_lift 22 = .ok (.getfield 34, 3) := by decide +kernel
theorem dX5_lift_25 : decode cX5_lift 25 = .ok (.iload_n 1, 1) := by decide +kernel
theorem dX5_lift_26 : decode cX5_lift 26 = .ok (.iaload, 1) := by decide +kernel
theorem dX5_lift_27 : decode cX5_lift 27 = .ok (.iload_n 3, 1) := by decide +kernel
theorem dX5_lift_28 : decode cX5_lift 28 = .ok (.iadd, 1) := by decide +kernel
theorem dX5_lift_29 : decode cX5_lift 29 = .ok (.istore 4, 2) := by decide +kernel
theorem dX5_lift_31 : decode cX5_lift 31 = .ok (.aload_n 0, 1) := by decide +kernel
theorem dX5_lift_32 : decode cX5_lift 32 = .ok (.iload 4, 2) := by decide +kernel
theorem dX5_lift_34 : decode cX5_lift 34 = .ok (.aload_n 0, 1) := by decide +kernel
theorem dX5_lift_35 : decode cX5_lift 35 = .ok (.getfield 37, 3) := by decide +kernel
theorem dX5_lift_38 : decode cX5_lift 38 = .ok (.iload_n 1, 1) := by decide +kernel
theorem dX5_lift_39 : decode cX5_lift 39 = .ok (.iaload, 1) := by decide +kernel
theorem dX5_lift_40 : decode cX5_lift 40 = .ok (.iconst (-1), 1) := by decide +kernel
theorem dX5_lift_41 : decode cX5_lift 41 = .ok (.invokevirtual 116, 3) := by decide +kernel
theorem dX5_lift_44 : decode cX5_lift 44 = .ok (.aload_n 0, 1) := by decide +kernel
theorem dX5_lift_45 : decode cX5_lift 45 = .ok (.iload 4, 2) := by decide +kernel
theorem dX5_lift_47 : decode cX5_lift 47 = .ok (.invokevirtual 120, 3) := by decide +kernel
theorem dX5_lift_50 : decode cX5_lift 50 = .ok (.iinc 3 1, 3) := by decide +kernel
theorem dX5_lift_53 : decode cX5_lift 53 = .ok (.goto (-42), 3) := by decide +kernel
theorem dX5_lift_56 : decode cX5_lift 56 = .ok (.aload_n 0, 1) := by decide +kernel
theorem dX5_lift_57 : decode cX5_lift 57 = .ok (.iload_n 1, 1) := by decide +kernel
theorem dX5_lift_58 : decode cX5_lift 58 = .ok (.iload_n 2, 1) := by decide +kernel
theorem dX5_lift_59 : decode cX5_lift 59 = .ok (.invokevirtual 124, 3) := by decide +kernel
theorem dX5_lift_62 : decode cX5_lift 62 = .ok (.return_, 1) := by decide +kernel
theorem dX5_fall_0 : decode cX5_fall 0 = .ok (.iconst 0, 1) := by decide +kernel
theorem dX5_fall_1 : decode cX5_fall 1 = .ok (.istore_n 1, 1) := by decide +kernel
theorem dX5_fall_2 : decode cX5_fall 2 = .ok (.iload_n 1, 1) := by decide +kernel
theorem dX5_fall_3 : decode cX5_fall 3 = .ok (.aload_n 0, 1) := by decide +kernel
theorem dX5_fall_4 : decode cX5_fall 4 = .ok (.getfield 15, 3) := by decide +kernel
theorem dX5_fall_7 : decode cX5_fall 7 = .ok (.if_icmp .ge 67, 3) := by decide +kernel
theorem dX5_fall_10 : decode cX5_fall 10 = .ok (.aload_n 0, 1) := by decide +kernel
theorem dX5_fall_11 : decode cX5_fall 11 = .ok (.getfield 31, 3) := by decide +kernel
theorem dX5_fall_14 : decode cX5_fall 14 = .ok (.iload_n 1, 1) := by decide +kernel
theorem dX5_fall_15 : decode cX5_fall 15 = .ok (.iaload, 1) := by decide +kernel
theorem dX5_fall_16 : decode cX5_fall 16 = .ok (.iconst (-1), 1) := by decide +kernel
theorem dX5_fall_17 : decode cX5_fall 17 = .ok (.if_icmp .ne 51, 3) := by decide +kernel
theorem dX5_fall_20 : decode cX5_fall 20 = .ok (.aload_n 0, 1) := by decide +kernel
theorem dX5_fall_21 : decode cX5_fall 21 = .ok (.getfield 37, 3) := by decide +kernel
theorem dX5_fall_24 : decode cX5_fall 24 = .ok (.iload_n 1, 1) := by decide +kernel
theorem dX5_fall_25 : decode cX5_fall 25 = .ok (.iaload, 1) := by decide +kernel
theorem dX5_fall_26 : decode cX5_fall 26 = .ok (.istore_n 2, 1) := by decide +kernel
theorem dX5_fall_27 : decode cX5_fall 27 = .ok (.aload_n 0, 1) := by decide +kernel
theorem dX5_fall_28 : decode cX5_fall 28 = .ok (.getfield 25, 3) := by decide +kernel
theorem dX5_fall_31 : decode cX5_fall 31 = .ok (.iload_n 1, 1) := by decide +kernel
theorem dX5_fall_32 : decode cX5_fall 32 = .ok (.iconst 0, 1) := by decide +kernel
theorem dX5_fall_33 : decode cX5_fall 33 = .ok (.aload_n 0, 1) := by decide +kernel
theorem dX5_fall_34 : decode cX5_fall 34 = .ok (.getfield 25, 3) := by decide +kernel
theorem dX5_fall_37 : decode cX5_fall 37 = .ok (.iload_n 1, 1) := by decide +kernel
theorem dX5_fall_38 : decode cX5_fall 38 = .ok (.iaload, 1) := by decide +kernel
theorem dX5_fall_39 : decode cX5_fall 39 = .ok (.iload_n 2, 1) := by decide +kernel
theorem dX5_fall_40 : decode cX5_fall 40 = .ok (.isub, 1) := by decide +kernel
theorem dX5_fall_41 : decode cX5_fall 41 = .ok (.invokestatic 75, 3) := by decide +kernel
theorem dX5_fall_44 : decode cX5_fall 44 = .ok (.iastore, 1) := by decide +kernel
theorem dX5_fall_45 : decode cX5_fall 45 = .ok (.aload_n 0, 1) := by decide +kernel
theorem dX5_fall_46 : decode cX5_fall 46 = .ok (.iload_n 1, 1) := by decide +kernel
theorem dX5_fall_47 : decode cX5_fall 47 = .ok (.bipush 59, 2) := by decide +kernel
theorem dX5_fall_49 : decode cX5_fall 49 = .ok (.bipush 10, 2) := by decide +kernel
theorem dX5_fall_51 : decode cX5_fall 51 = .ok (.aload_n 0, 1) := by decide +kernel
theorem dX5_fall_52 : decode cX5_fall 52 = .ok (.getfield 34, 3) := by decide +kernel
theorem dX5_fall_55 : decode cX5_fall 55 = .ok (.iload_n 1, 1) := by decide +kernel
theorem dX5_fall_56 : decode cX5_fall 56 = .ok (.iaload, 1) := by decide +kernel
theorem dX5_fall_57 : decode cX5_fall 57 = .ok (.iadd, 1) := by decide +kernel
theorem dX5_fall_58 : decode cX5_fall 58 = .ok (.iconst 2, 1) := by decide +kernel
theorem dX5_fall_59 : decode cX5_fall 59 = .ok (.iload_n 2, 1) := by decide +kernel
theorem dX5_fall_60 : decode cX5_fall 60 = .ok (.imul, 1) := by decide +kernel
theorem dX5_fall_61 : decode cX5_fall 61 = .ok (.iadd, 1) := by decide +kernel
theorem dX5_fall_62 : decode cX5_fall 62 = .ok (.invokestatic 127, 3) := by decide +kernel
theorem dX5_fall_65 : decode cX5_fall 65 = .ok (.invokevirtual 124, 3) := by decide +kernel
theorem dX5_fall_68 : decode cX5_fall 68 = .ok (.iinc 1 1, 3) := by decide +kernel
theorem dX5_fall_71 : decode cX5_fall 71 = .ok (.goto (-69), 3) := by decide +kernel
theorem dX5_fall_74 : decode cX5_fall 74 = .ok (.aload_n 0, 1) := by decide +kernel
theorem dX5_fall_75 : decode cX5_fall 75 = .ok (.invokevirtual 52, 3) := by decide +kernel
theorem dX5_fall_78 : decode cX5_fall 78 = .ok (.return_, 1) := by decide +kernel
theorem dX5_clear_0 : decode cX5_clear 0 = .ok (.iconst 0, 1) := by decide +kernel
theorem dX5_clear_1 : decode cX5_clear 1 = .ok (.istore_n 1, 1) := by decide +kernel
theorem dX5_clear_2 : decode cX5_clear 2 = .ok (.iload_n 1, 1) := by decide +kernel
theorem dX5_clear_3 : decode cX5_clear 3 = .ok (.aload_n 0, 1) := by decide +kernel
theorem dX5_clear_4 : decode cX5_clear 4 = .ok (.getfield 15, 3) := by decide +kernel
theorem dX5_clear_7 : decode cX5_clear 7 = .ok (.if_icmp .ge 25, 3) := by decide +kernel
theorem dX5_clear_10 : decode cX5_clear 10 = .ok (.aload_n 0, 1) := by decide +kernel
theorem dX5_clear_11 : decode cX5_clear 11 = .ok (.getfield 31, 3) := by decide +kernel
theorem dX5_clear_14 : decode cX5_clear 14 = .ok (.iload_n 1, 1) := by decide +kernel
theorem dX5_clear_15 : decode cX5_clear 15 = .ok (.iaload, 1) := by decide +kernel
theorem dX5_clear_16 : decode cX5_clear 16 = .ok (.iconst (-1), 1) := by decide +kernel
theorem dX5_clear_17 : decode cX5_clear 17 = .ok (.if_icmp .ne 9, 3) := by decide +kernel
theorem dX5_clear_20 : decode cX5_clear 20 = .ok (.aload_n 0, 1) := by decide +kernel
theorem dX5_clear_21 : decode cX5_clear 21 = .ok (.iload_n 1, 1) := by decide +kernel
theorem dX5_clear_22 : decode cX5_clear 22 = .ok (.iconst 0, 1) := by decide +kernel
theorem dX5_clear_23 : decode cX5_clear 23 = .ok (.invokevirtual 124, 3) := by decide +kernel
theorem dX5_clear_26 : decode cX5_clear 26 = .ok (.iinc 1 1, 3) := by decide +kernel
theorem dX5_clear_29 : decode cX5_clear 29 = .ok (.goto (-27), 3) := by decide +kernel
theorem dX5_clear_32 : decode cX5_clear 32 = .ok (.aload_n 0, 1) := by decide +kernel
theorem dX5_clear_33 : decode cX5_clear 33 = .ok (.invokevirtual 52, 3) := by decide +kernel
theorem dX5_clear_36 : decode cX5_clear 36 = .ok (.return_, 1) := by decide +kernel
theorem dX5_isTopHoly_0 : decode cX5_isTopHoly 0 = .ok (.iconst (-1), 1) := by decide +kernel
theorem dX5_isTopHoly_1 : decode cX5_isTopHoly 1 = .ok (.istore_n 1, 1) := by decide +kernel
theorem dX5_isTopHoly_2 : decode cX5_isTopHoly 2 = .ok (.iconst 0, 1) := by decide +kernel
theorem dX5_isTopHoly_3 : decode cX5_isTopHoly 3 = .ok (.istore_n 2, 1) := by decide +kernel
theorem dX5_isTopHoly_4 : decode cX5_isTopHoly 4 = .ok (.iload_n 2, 1) := by decide +kernel
theorem dX5_isTopHoly_5 : decode cX5_isTopHoly 5 = .ok (.aload_n 0, 1) := by decide +kernel
theorem dX5_isTopHoly_6 : decode cX5_isTopHoly 6 = .ok (.getfield 15, 3) := by decide +kernel
theorem dX5_isTopHoly_9 : decode cX5_isTopHoly 9 = .ok (.if_icmp .ge 41, 3) := by decide +kernel
theorem dX5_isTopHoly_12 : decode cX5_isTopHoly 12 = .ok (.aload_n 0, 1) := by decide +kernel
theorem dX5_isTopHoly_13 : decode cX5_isTopHoly 13 = .ok (.getfield 31, 3) := by decide +kernel
theorem dX5_isTopHoly_16 : decode cX5_isTopHoly 16 = .ok (.iload_n 2, 1) := by decide +kernel
theorem dX5_isTopHoly_17 : decode cX5_isTopHoly 17 = .ok (.iaload, 1) := by decide +kernel
theorem dX5_isTopHoly_18 : decode cX5_isTopHoly 18 = .ok (.iconst (-1), 1) := by decide +kernel
theorem dX5_isTopHoly_19 : decode cX5_isTopHoly 19 = .ok (.if_icmp .ne 25, 3) := by decide +kernel
theorem dX5_isTopHoly_22 : decode cX5_isTopHoly 22 = .ok (.iload_n 1, 1) := by decide +kernel
theorem dX5_isTopHoly_23 : decode cX5_isTopHoly 23 = .ok (.iconst (-1), 1) := by decide +kernel
theorem dX5_isTopHoly_24 : decode cX5_isTopHoly 24 = .ok (.if_icmp .eq 18, 3) := by decide +kernel
theorem dX5_isTopHoly_27 : decode cX5_isTopHoly 27 = .ok (.aload_n 0, 1) := by decide +kernel
theorem dX5_isTopHoly_28 : decode cX5_isTopHoly 28 = .ok (.getfield 37, 3) := by decide +kernel
theorem dX5_isTopHoly_31 : decode cX5_isTopHoly 31 = .ok (.iload_n 2, 1) := by decide +kernel
theorem dX5_isTopHoly_32 : decode cX5_isTopHoly 32 = .ok (.iaload, 1) := by decide +kernel
theorem dX5_isTopHoly_33 : decode cX5_isTopHoly 33 = .ok (.aload_n 0, 1) := by decide +kernel
theorem dX5_isTopHoly_34 : decode cX5_isTopHoly 34 = .ok (.getfield 37, 3) := by decide +kernel
theorem dX5_isTopHoly_37 : decode cX5_isTopHoly 37 = .ok (.iload_n 1, 1) := by decide +kernel
theorem dX5_isTopHoly_38 : decode cX5_isTopHoly 38 = .ok (.iaload, 1) := by decide +kernel
theorem dX5_isTopHoly_39 : decode cX5_isTopHoly 39 = .ok (.if_icmp .le 5, 3) := by decide +kernel
theorem dX5_isTopHoly_42 : decode cX5_isTopHoly 42 = .ok (.iload_n 2, 1) := by decide +kernel
theorem dX5_isTopHoly_43 : decode cX5_isTopHoly 43 = .ok (.istore_n 1, 1) := by decide +kernel
theorem dX5_isTopHoly_44 : decode cX5_isTopHoly 44 = .ok (.iinc 2 1, 3) := by decide +kernel
theorem dX5_isTopHoly_47 : decode cX5_isTopHoly 47 = .ok (.goto (-43), 3) := by decide +kernel
theorem dX5_isTopHoly_50 : decode cX5_isTopHoly 50 = .ok (.iload_n 1, 1) := by decide +kernel
theorem dX5_isTopHoly_51 : decode cX5_isTopHoly 51 = .ok (.iconst (-1), 1) := by decide +kernel
theorem dX5_isTopHoly_52 : decode cX5_isTopHoly 52 = .ok (.if_icmp .eq 18, 3) := by decide +kernel
theorem dX5_isTopHoly_55 : decode cX5_isTopHoly 55 = .ok (.aload_n 0, 1) := by decide +kernel
theorem dX5_isTopHoly_56 : decode cX5_isTopHoly 56 = .ok (.getfield 28, 3) := by decide +kernel
theorem dX5_isTopHoly_59 : decode cX5_isTopHoly 59 = .ok (.iload_n 1, 1) := by decide +kernel
theorem dX5_isTopHoly_60 : decode cX5_isTopHoly 60 = .ok (.iaload, 1) := by decide +kernel
theorem dX5_isTopHoly_61 : decode cX5_isTopHoly 61 = .ok (.iconst 4, 1) := by decide +kernel
theorem dX5_isTopHoly_62 : decode cX5_isTopHoly 62 = .ok (.iand, 1) := by decide +kernel
theorem dX5_isTopHoly_63 : decode cX5_isTopHoly 63 = .ok (.ifCond .eq 7, 3) := by decide +kernel
theorem dX5_isTopHoly_66 : decode cX5_isTopHoly 66 = .ok (.iconst 1, 1) := by decide +kernel
theorem dX5_isTopHoly_67 : decode cX5_isTopHoly 67 = .ok (.goto 4, 3) := by decide +kernel
theorem dX5_isTopHoly_70 : decode cX5_isTopHoly 70 = .ok (.iconst 0, 1) := by decide +kernel
theorem dX5_isTopHoly_71 : decode cX5_isTopHoly 71 = .ok (.ireturn, 1) := by decide +kernel
theorem dX5_overloaded_0 : decode cX5_overloaded 0 = .ok (.iconst (-1), 1) := by decide +kernel
theorem dX5_overloaded_1 : decode cX5_overloaded 1 = .ok (.istore_n 1, 1) := by decide +kernel
theorem dX5_overloaded_2 : decode cX5_overloaded 2 = .ok (.iconst 0, 1) := by decide +kernel
theorem dX5_overloaded_3 : decode cX5_overloaded 3 = .ok (.istore_n 2, 1) := by decide +kernel
theorem dX5_overloaded_4 : decode cX5_overloaded 4 = .ok (.iload_n 2, 1) := by decide +kernel
theorem dX5_overloaded_5 : decode cX5_overloaded 5 = .ok (.aload_n 0, 1) := by decide +kernel
theorem dX5_overloaded_6 : decode cX5_overloaded 6 = .ok (.getfield 15, 3) := by decide +kernel
theorem dX5_overloaded_9 : decode cX5_overloaded 9 = .ok (.if_icmp .ge 65, 3) := by decide +kernel
theorem dX5_overloaded_12 : decode cX5_overloaded 12 = .ok (.aload_n 0, 1) := by decide +kernel
theorem dX5_overloaded_13 : decode cX5_overloaded 13 = .ok (.getfield 31, 3) := by decide +kernel
theorem dX5_overloaded_16 : decode cX5_overloaded 16 = .ok (.iload_n 2, 1) := by decide +kernel
theorem dX5_overloaded_17 : decode cX5_overloaded 17 = .ok (.iaload, 1) := by decide +kernel
theorem dX5_overloaded_18 : decode cX5_overloaded 18 = .ok (.iconst (-1), 1) := by decide +kernel
theorem dX5_overloaded_19 : decode cX5_overloaded 19 = .ok (.if_icmp .ne 21, 3) := by decide +kernel
theorem dX5_overloaded_22 : decode cX5_overloaded 22 = .ok (.aload_n 0, 1) := by decide +kernel
theorem dX5_overloaded_23 : decode cX5_overloaded 23 = .ok (.getfield 46, 3) := by decide +kernel
theorem dX5_overloaded_26 : decode cX5_overloaded 26 = .ok (.iload_n 2, 1) := by decide +kernel
theorem dX5_overloaded_27 : decode cX5_overloaded 27 = .ok (.iaload, 1) := by decide +kernel
theorem dX5_overloaded_28 : decode cX5_overloaded 28 = .ok (.aload_n 0, 1) := by decide +kernel
theorem dX5_overloaded_29 : decode cX5_overloaded 29 = .ok (.iload_n 2, 1) := by decide +kernel
theorem dX5_overloaded_30 : decode cX5_overloaded 30 = .ok (.invokevirtual 130, 3) := by decide +kernel
theorem dX5_overloaded_33 : decode cX5_overloaded 33 = .ok (.if_icmp .le 7, 3) := by decide +kernel
theorem dX5_overloaded_36 : decode cX5_overloaded 36 = .ok (.iconst 1, 1) := by decide +kernel
theorem dX5_overloaded_37 : decode cX5_overloaded 37 = .ok (.goto 4, 3) := by decide +kernel
theorem dX5_overloaded_40 : decode cX5_overloaded 40 = .ok (.iconst 0, 1) := by decide +kernel
theorem dX5_overloaded_41 : decode cX5_overloaded 41 = .ok (.istore_n 3, 1) := by decide +kernel
theorem dX5_overloaded_42 : decode cX5_overloaded 42 = .ok (.iload_n 3, 1) := by decide +kernel
theorem dX5_overloaded_43 : decode cX5_overloaded 43 = .ok (.ifCond .eq 25, 3) := by decide +kernel
theorem dX5_overloaded_46 : decode cX5_overloaded 46 = .ok (.iload_n 1, 1) := by decide +kernel
theorem dX5_overloaded_47 : decode cX5_overloaded 47 = .ok (.iconst (-1), 1) := by decide +kernel
theorem dX5_overloaded_48 : decode cX5_overloaded 48 = .ok (.if_icmp .eq 18, 3) := by decide +kernel
theorem dX5_overloaded_51 : decode cX5_overloaded 51 = .ok (.aload_n 0, 1) := by decide +kernel
theorem dX5_overloaded_52 : decode cX5_overloaded 52 = .ok (.getfield 37, 3) := by decide +kernel
theorem dX5_overloaded_55 : decode cX5_overloaded 55 = .ok (.iload_n 2, 1) := by decide +kernel
theorem dX5_overloaded_56 : decode cX5_overloaded 56 = .ok (.iaload, 1) := by decide +kernel
theorem dX5_overloaded_57 : decode cX5_overloaded 57 = .ok (.aload_n 0, 1) := by decide +kernel
theorem dX5_overloaded_58 : decode cX5_overloaded 58 = .ok (.getfield 37, 3) := by decide +kernel
theorem dX5_overloaded_61 : decode cX5_overloaded 61 = .ok (.iload_n 1, 1) := by decide +kernel
theorem dX5_overloaded_62 : decode cX5_overloaded 62 = .ok (.iaload, 1) := by decide +kernel
theorem dX5_overloaded_63 : decode cX5_overloaded 63 = .ok (.if_icmp .le 5, 3) := by decide +kernel
theorem dX5_overloaded_66 : decode cX5_overloaded 66 = .ok (.iload_n 2, 1) := by decide +kernel
theorem dX5_overloaded_67 : decode cX5_overloaded 67 = .ok (.istore_n 1, 1) := by decide +kernel
theorem dX5_overloaded_68 : decode cX5_overloaded 68 = .ok (.iinc 2 1, 3) := by decide +kernel
theorem dX5_overloaded_71 : decode cX5_overloaded 71 = .ok (.goto (-67), 3) := by decide +kernel
theorem dX5_overloaded_74 : decode cX5_overloaded 74 = .ok (.iload_n 1, 1) := by decide +kernel
theorem dX5_overloaded_75 : decode cX5_overloaded 75 = .ok (.ireturn, 1) := by decide +kernel
theorem dX5_weigh_0 : decode cX5_weigh 0 = .ok (.aload_n 0, 1) := by decide +kernel
theorem dX5_weigh_1 : decode cX5_weigh 1 = .ok (.getfield 46, 3) := by decide +kernel
theorem dX5_weigh_4 : decode cX5_weigh 4 = .ok (.iconst 0, 1) := by decide +kernel
theorem dX5_weigh_5 : decode cX5_weigh 5 = .ok (.invokestatic 133, 3) := by decide +kernel
theorem dX5_weigh_8 : decode cX5_weigh 8 = .ok (.aload_n 0, 1) := by decide +kernel
theorem dX5_weigh_9 : decode cX5_weigh 9 = .ok (.invokevirtual 139, 3) := by decide +kernel
theorem dX5_weigh_12 : decode cX5_weigh 12 = .ok (.iconst 1, 1) := by decide +kernel
theorem dX5_weigh_13 : decode cX5_weigh 13 = .ok (.isub, 1) := by decide +kernel
theorem dX5_weigh_14 : decode cX5_weigh 14 = .ok (.istore_n 1, 1) := by decide +kernel
theorem dX5_weigh_15 : decode cX5_weigh 15 = .ok (.iload_n 1, 1) := by decide +kernel
theorem dX5_weigh_16 : decode cX5_weigh 16 = .ok (.ifCond .le 52, 3) := by decide +kernel
theorem dX5_weigh_19 : decode cX5_weigh 19 = .ok (.iconst 0, 1) := by decide +kernel
theorem dX5_weigh_20 : decode cX5_weigh 20 = .ok (.istore_n 2, 1) := by decide +kernel
theorem dX5_weigh_21 : decode cX5_weigh 21 = .ok (.iload_n 2, 1) := by decide +kernel
theorem dX5_weigh_22 : decode cX5_weigh 22 = .ok (.aload_n 0, 1) := by decide +kernel
theorem dX5_weigh_23 : decode cX5_weigh 23 = .ok (.getfield 9, 3) := by decide +kernel
theorem dX5_weigh_26 : decode cX5_weigh 26 = .ok (.if_icmp .ge 36, 3) := by decide +kernel
theorem dX5_weigh_29 : decode cX5_weigh 29 = .ok (.aload_n 0, 1) := by decide +kernel
theorem dX5_weigh_30 : decode cX5_weigh 30 = .ok (.iload_n 2, 1) := by decide +kernel
theorem dX5_weigh_31 : decode cX5_weigh 31 = .ok (.iload_n 1, 1) := by decide +kernel
theorem dX5_weigh_32 : decode cX5_weigh 32 = .ok (.invokevirtual 93, 3) := by decide +kernel
theorem dX5_weigh_35 : decode cX5_weigh 35 = .ok (.istore_n 3, 1) := by decide +kernel
theorem dX5_weigh_36 : decode cX5_weigh 36 = .ok (.iload_n 3, 1) := by decide +kernel
theorem dX5_weigh_37 : decode cX5_weigh 37 = .ok (.iconst (-1), 1) := by decide +kernel
theorem dX5_weigh_38 : decode cX5_weigh 38 = .ok (.if_icmp .eq 18, 3) := by decide +kernel
theorem dX5_weigh_41 : decode cX5_weigh 41 = .ok (.aload_n 0, 1) := by decide +kernel
theorem dX5_weigh_42 : decode cX5_weigh 42 = .ok (.getfield 34, 3) := by decide +kernel
theorem dX5_weigh_45 : decode cX5_weigh 45 = .ok (.iload_n 3, 1) := by decide +kernel
theorem dX5_weigh_46 : decode cX5_weigh 46 = .ok (.iaload, 1) := by decide +kernel
theorem dX5_weigh_47 : decode cX5_weigh 47 = .ok (.iload_n 2, 1) := by decide +kernel
theorem dX5_weigh_48 : decode cX5_weigh 48 = .ok (.if_icmp .ne 8, 3) := by decide +kernel
theorem dX5_weigh_51 : decode cX5_weigh 51 = .ok (.aload_n 0, 1) := by decide +kernel
theorem dX5_weigh_52 : decode cX5_weigh 52 = .ok (.iload_n 3, 1) := by decide +kernel
theorem dX5_weigh_53 : decode cX5_weigh 53 = .ok (.invokevirtual 142, 3) := by decide +kernel
theorem dX5_weigh_56 : decode cX5_weigh 56 = .ok (.iinc 2 1, 3) := by decide +kernel
theorem dX5_weigh_59 : decode cX5_weigh 59 = .ok (.goto (-38), 3) := by decide +kernel
theorem dX5_weigh_62 : decode cX5_weigh 62 = .ok (.iinc 1 (-1), 3) := by decide +kernel
theorem dX5_weigh_65 : decode cX5_weigh 65 = .ok (.goto (-50), 3) := by decide +kernel
theorem dX5_weigh_68 : decode cX5_weigh 68 = .ok (.return_, 1) := by decide +kernel
theorem dX5_share_0 : decode cX5_share 0 = .ok (.aload_n 0, 1) := by decide +kernel
theorem dX5_share_1 : decode cX5_share 1 = .ok (.getfield 37, 3) := by decide +kernel
theorem dX5_share_4 : decode cX5_share 4 = .ok (.iload_n 1, 1) := by decide +kernel
theorem dX5_share_5 : decode cX5_share 5 = .ok (.iaload, 1) := by decide +kernel
theorem dX5_share_6 : decode cX5_share 6 = .ok (.iconst 1, 1) := by decide +kernel
theorem dX5_share_7 : decode cX5_share 7 = .ok (.isub, 1) := by decide +kernel
theorem dX5_share_8 : decode cX5_share 8 = .ok (.istore_n 2, 1) := by decide +kernel
theorem dX5_share_9 : decode cX5_share 9 = .ok (.iconst 0, 1) := by decide +kernel
theorem dX5_share_10 : decode cX5_share 10 = .ok (.istore_n 3, 1) := by decide +kernel
theorem dX5_share_11 : decode cX5_share 11 = .ok (.iconst 0, 1) := by decide +kernel
theorem dX5_share_12 : decode cX5_share 12 = .ok (.istore 4, 2) := by decide +kernel
theorem dX5_share_14 : decode cX5_share 14 = .ok (.iload 4, 2) := by decide +kernel
theorem dX5_share_16 : decode cX5_share 16 = .ok (.aload_n 0, 1) := by decide +kernel
theorem dX5_share_17 : decode cX5_share 17 = .ok (.getfield 18, 3) := by decide +kernel
theorem dX5_share_20 : decode cX5_share 20 = .ok (.iload_n 1, 1) := by decide +kernel
theorem dX5_share_21 : decode cX5_share 21 = .ok (.iaload, 1) := by decide +kernel
theorem dX5_share_22 : decode cX5_share 22 = .ok (.if_icmp .ge 30, 3) := by decide +kernel
theorem dX5_share_25 : decode cX5_share 25 = .ok (.aload_n 0, 1) := by decide +kernel
theorem dX5_share_26 : decode cX5_share 26 = .ok (.aload_n 0, 1) := by decide +kernel
theorem dX5_share_27 : decode cX5_share 27 = .ok (.getfield 34, 3) := by decide +kernel
theorem dX5_share_30 : decode cX5_share 30 = .ok (.iload_n 1, 1) := by decide +kernel
theorem dX5_share_31 : decode cX5_share 31 = .ok (.iaload, 1) := by decide +kernel
theorem dX5_share_32 : decode cX5_share 32 = .ok (.iload 4, 2) := by decide +kernel
theorem dX5_share_34 : decode cX5_share 34 = .ok (.iadd, 1) := by decide +kernel
theorem dX5_share_35 : decode cX5_share 35 = .ok (.iload_n 2, 1) := by decide +kernel
theorem dX5_share_36 : decode cX5_share 36 = .ok (.invokevirtual 93, 3) := by decide +kernel
theorem dX5_share_39 : decode cX5_share 39 = .ok (.iconst (-1), 1) := by decide +kernel
theorem dX5_share_40 : decode cX5_share 40 = .ok (.if_icmp .eq 6, 3) := by decide +kernel
theorem dX5_share_43 : decode cX5_share 43 = .ok (.iinc 3 1, 3) := by decide +kernel
theorem dX5_share_46 : decode cX5_share 46 = .ok (.iinc 4 1, 3) := by decide +kernel
theorem dX5_share_49 : decode cX5_share 49 = .ok (.goto (-35), 3) := by decide +kernel
theorem dX5_share_52 : decode cX5_share 52 = .ok (.iload_n 3, 1) := by decide +kernel
theorem dX5_share_53 : decode cX5_share 53 = .ok (.ifCond .ne 4, 3) := by decide +kernel
theorem dX5_share_56 : decode cX5_share 56 = .ok (.return_, 1) := by decide +kernel
theorem dX5_share_57 : decode cX5_share 57 = .ok (.aload_n 0, 1) := by decide +kernel
theorem dX5_share_58 : decode cX5_share 58 = .ok (.getfield 22, 3) := by decide +kernel
theorem dX5_share_61 : decode cX5_share 61 = .ok (.iload_n 1, 1) := by decide +kernel
theorem dX5_share_62 : decode cX5_share 62 = .ok (.iaload, 1) := by decide +kernel
theorem dX5_share_63 : decode cX5_share 63 = .ok (.aload_n 0, 1) := by decide +kernel
theorem dX5_share_64 : decode cX5_share 64 = .ok (.getfield 46, 3) := by decide +kernel
theorem dX5_share_67 : decode cX5_share 67 = .ok (.iload_n 1, 1) := by decide +kernel
theorem dX5_share_68 : decode cX5_share 68 = .ok (.iaload, 1) := by decide +kernel
theorem dX5_share_69 : decode cX5_share 69 = .ok (.iadd, 1) := by decide +kernel
theorem dX5_share_70 : decode cX5_share 70 = .ok (.istore 4, 2) := by decide +kernel
theorem dX5_share_72 : decode cX5_share 72 = .ok (.iload 4, 2) := by decide +kernel
theorem dX5_share_74 : decode cX5_share 74 = .ok (.iload_n 3, 1) := by decide +kernel
theorem dX5_share_75 : decode cX5_share 75 = .ok (.idiv, 1) := by decide +kernel
theorem dX5_share_76 : decode cX5_share 76 = .ok (.istore 5, 2) := by decide +kernel
theorem dX5_share_78 : decode cX5_share 78 = .ok (.iload 4, 2) := by decide +kernel
theorem dX5_share_80 : decode cX5_share 80 = .ok (.iload 5, 2) := by decide +kernel
theorem dX5_share_82 : decode cX5_share 82 = .ok (.iload_n 3, 1) := by decide +kernel
theorem dX5_share_83 : decode cX5_share 83 = .ok (.imul, 1) := by decide +kernel
theorem dX5_share_84 : decode cX5_share 84 = .ok (.isub, 1) := by decide +kernel
theorem dX5_share_85 : decode cX5_share 85 = .ok (.istore 6, 2) := by decide +kernel
theorem dX5_share_87 : decode cX5_share 87 = .ok (.iconst 0, 1) := by decide +kernel
theorem dX5_share_88 : decode cX5_share 88 = .ok (.istore 7, 2) := by decide +kernel
theorem dX5_share_90 : decode cX5_share 90 = .ok (.iload 7, 2) := by decide +kernel
theorem dX5_share_92 : decode cX5_share 92 = .ok (.aload_n 0, 1) := by decide +kernel
theorem dX5_share_93 : decode cX5_share 93 = .ok (.getfield 18, 3) := by decide +kernel
theorem dX5_share_96 : decode cX5_share 96 = .ok (.iload_n 1, 1) := by decide +kernel
theorem dX5_share_97 : decode cX5_share 97 = .ok (.iaload, 1) := by decide +kernel
theorem dX5_share_98 : decode cX5_share 98 = .ok (.if_icmp .ge 58, 3) := by decide +kernel
theorem dX5_share_101 : decode cX5_share 101 = .ok (.aload_n 0, 1) := by decide +kernel
theorem dX5_share_102 : decode cX5_share 102 = .ok (.aload_n 0, 1) := by decide +kernel
theorem dX5_share_103 : decode cX5_share 103 = .ok (.getfield 34, 3) := by decide +kernel
theorem dX5_share_106 : decode cX5_share 106 = .ok (.iload_n 1, 1) := by decide +kernel
theorem dX5_share_107 : decode cX5_share 107 = .ok (.iaload, 1) := by decide +kernel
theorem dX5_share_108 : decode cX5_share 108 = .ok (.iload 7, 2) := by decide +kernel
theorem dX5_share_110 : decode cX5_share 110 = .ok (.iadd, 1) := by decide +kernel
theorem dX5_share_111 : decode cX5_share 111 = .ok (.iload_n 2, 1) := by decide +kernel
theorem dX5_share_112 : decode cX5_share 112 = .ok (.invokevirtual 93, 3) := by decide +kernel
theorem dX5_share_115 : decode cX5_share 115 = .ok (.istore 8, 2) := by decide +kernel
theorem dX5_share_117 : decode cX5_share 117 = .ok (.iload 8, 2) := by decide +kernel
theorem dX5_share_119 : decode cX5_share 119 = .ok (.iconst (-1), 1) := by decide +kernel
theorem dX5_share_120 : decode cX5_share 120 = .ok (.if_icmp .eq 30, 3) := by decide +kernel
theorem dX5_share_123 : decode cX5_share 123 = .ok (.aload_n 0, 1) := by decide +kernel
theorem dX5_share_124 : decode cX5_share 124 = .ok (.getfield 46, 3) := by decide +kernel
theorem dX5_share_127 : decode cX5_share 127 = .ok (.iload 8, 2) := by decide +kernel
theorem dX5_share_129 : decode cX5_share 129 = .ok (.dup2, 1) := by decide +kernel
theorem dX5_share_130 : decode cX5_share 130 = .ok (.iaload, 1) := by decide +kernel
theorem dX5_share_131 : decode cX5_share 131 = .ok (.iload 6, 2) := by decide +kernel
theorem dX5_share_133 : decode cX5_share 133 = .ok (.ifCond .le 10, 3) := by decide +kernel
theorem dX5_share_136 : decode cX5_share 136 = .ok (.iload 5, 2) := by decide +kernel
theorem dX5_share_138 : decode cX5_share 138 = .ok (.iconst 1, 1) := by decide +kernel
theorem dX5_share_139 : decode cX5_share 139 = .ok (.iadd, 1) := by decide +kernel
theorem dX5_share_140 : decode cX5_share 140 = .ok (.goto 5, 3) := by decide +kernel
theorem dX5_share_143 : decode cX5_share 143 = .ok (.iload 5, 2) := by decide +kernel
theorem dX5_share_145 : decode cX5_share 145 = .ok (.iadd, 1) := by decide +kernel
theorem dX5_share_146 : decode cX5_share 146 = .ok (.iastore, 1) := by decide +kernel
theorem dX5_share_147 : decode cX5_share 147 = .ok (.iinc 6 (-1), 3) := by decide +kernel
theorem dX5_share_150 : decode cX5_share 150 = .ok (.iinc 7 1, 3) := by decide +kernel
theorem dX5_share_153 : decode cX5_share 153 = .ok (.goto (-63), 3) := by decide +kernel
theorem dX5_share_156 : decode cX5_share 156 = .ok (.return_, 1) := by decide +kernel
theorem dX5_toYard_0 : decode cX5_toYard 0 = .ok (.aload_n 0, 1) := by decide +kernel
theorem dX5_toYard_1 : decode cX5_toYard 1 = .ok (.getfield 31, 3) := by decide +kernel
theorem dX5_toYard_4 : decode cX5_toYard 4 = .ok (.iload_n 1, 1) := by decide +kernel
theorem dX5_toYard_5 : decode cX5_toYard 5 = .ok (.iload_n 2, 1) := by decide +kernel
theorem dX5_toYard_6 : decode cX5_toYard 6 = .ok (.iastore, 1) := by decide +kernel
theorem dX5_toYard_7 : decode cX5_toYard 7 = .ok (.aload_n 0, 1) := by decide +kernel
theorem dX5_toYard_8 : decode cX5_toYard 8 = .ok (.getfield 34, 3) := by decide +kernel
theorem dX5_toYard_11 : decode cX5_toYard 11 = .ok (.iload_n 1, 1) := by decide +kernel
theorem dX5_toYard_12 : decode cX5_toYard 12 = .ok (.iconst (-1), 1) := by decide +kernel
theorem dX5_toYard_13 : decode cX5_toYard 13 = .ok (.iastore, 1) := by decide +kernel
theorem dX5_toYard_14 : decode cX5_toYard 14 = .ok (.aload_n 0, 1) := by decide +kernel
theorem dX5_toYard_15 : decode cX5_toYard 15 = .ok (.getfield 37, 3) := by decide +kernel
theorem dX5_toYard_18 : decode cX5_toYard 18 = .ok (.iload_n 1, 1) := by decide +kernel
theorem dX5_toYard_19 : decode cX5_toYard 19 = .ok (.iconst (-1), 1) := by decide +kernel
theorem dX5_toYard_20 : decode cX5_toYard 20 = .ok (.iastore, 1) := by decide +kernel
theorem dX5_toYard_21 : decode cX5_toYard 21 = .ok (.return_, 1) := by decide +kernel
theorem dX5_settle_0 : decode cX5_settle 0 = .ok (.iconst 0, 1) := by decide +kernel
theorem dX5_settle_1 : decode cX5_settle 1 = .ok (.istore_n 2, 1) := by decide +kernel
theorem dX5_settle_2 : decode cX5_settle 2 = .ok (.aload_n 0, 1) := by decide +kernel
theorem dX5_settle_3 : decode cX5_settle 3 = .ok (.iload_n 1, 1) := by decide +kernel
theorem dX5_settle_4 : decode cX5_settle 4 = .ok (.invokevirtual 87, 3) := by decide +kernel
theorem dX5_settle_7 : decode cX5_settle 7 = .ok (.iconst 1, 1) := by decide +kernel
theorem dX5_settle_8 : decode cX5_settle 8 = .ok (.isub, 1) := by decide +kernel
theorem dX5_settle_9 : decode cX5_settle 9 = .ok (.istore_n 3, 1) := by decide +kernel
theorem dX5_settle_10 : decode cX5_settle 10 = .ok (.iload_n 3, 1) := by decide +kernel
theorem dX5_settle_11 : decode cX5_settle 11 = .ok (.ifCond .lt 27, 3) := by decide +kernel
theorem dX5_settle_14 : decode cX5_settle 14 = .ok (.iload_n 2, 1) := by decide +kernel
theorem dX5_settle_15 : decode cX5_settle 15 = .ok (.ifCond .ne 23, 3) := by decide +kernel
theorem dX5_settle_18 : decode cX5_settle 18 = .ok (.aload_n 0, 1) := by decide +kernel
theorem dX5_settle_19 : decode cX5_settle 19 = .ok (.iload_n 1, 1) := by decide +kernel
theorem dX5_settle_20 : decode cX5_settle 20 = .ok (.iload_n 3, 1) := by decide +kernel
theorem dX5_settle_21 : decode cX5_settle 21 = .ok (.invokevirtual 93, 3) := by decide +kernel
theorem dX5_settle_24 : decode cX5_settle 24 = .ok (.iconst (-1), 1) := by decide +kernel
theorem dX5_settle_25 : decode cX5_settle 25 = .ok (.if_icmp .eq 7, 3) := by decide +kernel
theorem dX5_settle_28 : decode cX5_settle 28 = .ok (.iload_n 3, 1) := by decide +kernel
theorem dX5_settle_29 : decode cX5_settle 29 = .ok (.iconst 1, 1) := by decide +kernel
theorem dX5_settle_30 : decode cX5_settle 30 = .ok (.iadd, 1) := by decide +kernel
theorem dX5_settle_31 : decode cX5_settle 31 = .ok (.istore_n 2, 1) := by decide +kernel
theorem dX5_settle_32 : decode cX5_settle 32 = .ok (.iinc 3 (-1), 3) := by decide +kernel
theorem dX5_settle_35 : decode cX5_settle 35 = .ok (.goto (-25), 3) := by decide +kernel
theorem dX5_settle_38 : decode cX5_settle 38 = .ok (.iload_n 1, 1) := by decide +kernel
theorem dX5_settle_39 : decode cX5_settle 39 = .ok (.ifCond .lt 16, 3) := by decide +kernel
theorem dX5_settle_42 : decode cX5_settle 42 = .ok (.iload_n 1, 1) := by decide +kernel
theorem dX5_settle_43 : decode cX5_settle 43 = .ok (.bipush 8, 2) := by decide +kernel
theorem dX5_settle_45 : decode cX5_settle 45 = .ok (.if_icmp .ge 10, 3) := by decide +kernel
theorem dX5_settle_48 : decode cX5_settle 48 = .ok (.aload_n 0, 1) := by decide +kernel
theorem dX5_settle_49 : decode cX5_settle 49 = .ok (.getfield 40, 3) := by decide +kernel
theorem dX5_settle_52 : decode cX5_settle 52 = .ok (.iload_n 1, 1) := by decide +kernel
theorem dX5_settle_53 : decode cX5_settle 53 = .ok (.iload_n 2, 1) := by decide +kernel
theorem dX5_settle_54 : decode cX5_settle 54 = .ok (.iastore, 1) := by decide +kernel
theorem dX5_settle_55 : decode cX5_settle 55 = .ok (.return_, 1) := by decide +kernel
theorem dX5_clearCells_0 : decode cX5_clearCells 0 = .ok (.aload_n 0, 1) := by decide +kernel
theorem dX5_clearCells_1 : decode cX5_clearCells 1 = .ok (.getfield 43, 3) := by decide +kernel
theorem dX5_clearCells_4 : decode cX5_clearCells 4 = .ok (.iconst (-1), 1) := by decide +kernel
theorem dX5_clearCells_5 : decode cX5_clearCells 5 = .ok (.invokestatic 133, 3) := by decide +kernel
theorem dX5_clearCells_8 : decode cX5_clearCells 8 = .ok (.aload_n 0, 1) := by decide +kernel
theorem dX5_clearCells_9 : decode cX5_clearCells 9 = .ok (.getfield 40, 3) := by decide +kernel
theorem dX5_clearCells_12 : decode cX5_clearCells 12 = .ok (.iconst 0, 1) := by decide +kernel
theorem dX5_clearCells_13 : decode cX5_clearCells 13 = .ok (.invokestatic 133, 3) := by decide +kernel
theorem dX5_clearCells_16 : decode cX5_clearCells 16 = .ok (.return_, 1) := by decide +kernel
theorem dX5_mark_0 : decode cX5_mark 0 = .ok (.iload_n 1, 1) := by decide +kernel
theorem dX5_mark_1 : decode cX5_mark 1 = .ok (.ifCond .lt 31, 3) := by decide +kernel
theorem dX5_mark_4 : decode cX5_mark 4 = .ok (.iload_n 1, 1) := by decide +kernel
theorem dX5_mark_5 : decode cX5_mark 5 = .ok (.bipush 8, 2) := by decide +kernel
theorem dX5_mark_7 : decode cX5_mark 7 = .ok (.if_icmp .ge 25, 3) := by decide +kernel
theorem dX5_mark_10 : decode cX5_mark 10 = .ok (.iload_n 2, 1) := by decide +kernel
theorem dX5_mark_11 : decode cX5_mark 11 = .ok (.ifCond .lt 21, 3) := by decide +kernel
theorem dX5_mark_14 : decode cX5_mark 14 = .ok (.iload_n 2, 1) := by decide +kernel
theorem dX5_mark_15 : decode cX5_mark 15 = .ok (.bipush 20, 2) := by decide +kernel
theorem dX5_mark_17 : decode cX5_mark 17 = .ok (.if_icmp .ge 15, 3) := by decide +kernel
theorem dX5_mark_20 : decode cX5_mark 20 = .ok (.aload_n 0, 1) := by decide +kernel
theorem dX5_mark_21 : decode cX5_mark 21 = .ok (.getfield 43, 3) := by decide +kernel
theorem dX5_mark_24 : decode cX5_mark 24 = .ok (.iload_n 1, 1) := by decide +kernel
theorem dX5_mark_25 : decode cX5_mark 25 = .ok (.bipush 20, 2) := by decide +kernel
theorem dX5_mark_27 : decode cX5_mark 27 = .ok (.imul, 1) := by decide +kernel
theorem dX5_mark_28 : decode cX5_mark 28 = .ok (.iload_n 2, 1) := by decide +kernel
theorem dX5_mark_29 : decode cX5_mark 29 = .ok (.iadd, 1) := by decide +kernel
theorem dX5_mark_30 : decode cX5_mark 30 = .ok (.iload_n 3, 1) := by decide +kernel
theorem dX5_mark_31 : decode cX5_mark 31 = .ok (.iastore, 1) := by decide +kernel
theorem dX5_mark_32 : decode cX5_mark 32 = .ok (.return_, 1) := by decide +kernel
theorem dX5_cellAt_0 : decode cX5_cellAt 0 = .ok (.iload_n 1, 1) := by decide +kernel
theorem dX5_cellAt_1 : decode cX5_cellAt 1 = .ok (.ifCond .lt 23, 3) := by decide +kernel
theorem dX5_cellAt_4 : decode cX5_cellAt 4 = .ok (.iload_n 1, 1) := by decide +kernel
theorem dX5_cellAt_5 : decode cX5_cellAt 5 = .ok (.bipush 8, 2) := by decide +kernel
theorem dX5_cellAt_7 : decode cX5_cellAt 7 = .ok (.if_icmp .ge 17, 3) := by decide +kernel
theorem dX5_cellAt_10 : decode cX5_cellAt 10 = .ok (.iload_n 2, 1) := by decide +kernel
theorem dX5_cellAt_11 : decode cX5_cellAt 11 = .ok (.ifCond .lt 13, 3) := by decide +kernel
theorem dX5_cellAt_14 : decode cX5_cellAt 14 = .ok (.iload_n 2, 1) := by decide +kernel
theorem dX5_cellAt_15 : decode cX5_cellAt 15 = .ok (.bipush 20, 2) := by decide +kernel
theorem dX5_cellAt_17 : decode cX5_cellAt 17 = .ok (.if_icmp .ge 7, 3) := by decide +kernel
theorem dX5_cellAt_20 : decode cX5_cellAt 20 = .ok (.iconst 1, 1) := by decide +kernel
theorem dX5_cellAt_21 : decode cX5_cellAt 21 = .ok (.goto 4, 3) := by decide +kernel
theorem dX5_cellAt_24 : decode cX5_cellAt 24 = .ok (.iconst 0, 1) := by decide +kernel
theorem dX5_cellAt_25 : decode cX5_cellAt 25 = .ok (.istore_n 3, 1) := by decide +kernel
theorem dX5_cellAt_26 : decode cX5_cellAt 26 = .ok (.iload_n 3, 1) := by decide +kernel
theorem dX5_cellAt_27 : decode cX5_cellAt 27 = .ok (.ifCond .eq 17, 3) := by decide +kernel
theorem dX5_cellAt_30 : decode cX5_cellAt 30 = .ok (.aload_n 0, 1) := by decide +kernel
theorem dX5_cellAt_31 : decode cX5_cellAt 31 = .ok (.getfield 43, 3) := by decide +kernel
theorem dX5_cellAt_34 : decode cX5_cellAt 34 = .ok (.iload_n 1, 1) := by decide +kernel
theorem dX5_cellAt_35 : decode cX5_cellAt 35 = .ok (.bipush 20, 2) := by decide +kernel
theorem dX5_cellAt_37 : decode cX5_cellAt 37 = .ok (.imul, 1) := by decide +kernel
theorem dX5_cellAt_38 : decode cX5_cellAt 38 = .ok (.iload_n 2, 1) := by decide +kernel
theorem dX5_cellAt_39 : decode cX5_cellAt 39 = .ok (.iadd, 1) := by decide +kernel
theorem dX5_cellAt_40 : decode cX5_cellAt 40 = .ok (.iaload, 1) := by decide +kernel
theorem dX5_cellAt_41 : decode cX5_cellAt 41 = .ok (.goto 4, 3) := by decide +kernel
theorem dX5_cellAt_44 : decode cX5_cellAt 44 = .ok (.iconst (-1), 1) := by decide +kernel
theorem dX5_cellAt_45 : decode cX5_cellAt 45 = .ok (.ireturn, 1) := by decide +kernel
theorem dX5_heightAt_0 : decode cX5_heightAt 0 = .ok (.iload_n 1, 1) := by decide +kernel
theorem dX5_heightAt_1 : decode cX5_heightAt 1 = .ok (.ifCond .lt 18, 3) := by decide +kernel
theorem dX5_heightAt_4 : decode cX5_heightAt 4 = .ok (.iload_n 1, 1) := by decide +kernel
theorem dX5_heightAt_5 : decode cX5_heightAt 5 = .ok (.bipush 8, 2) := by decide +kernel
theorem dX5_heightAt_7 : decode cX5_heightAt 7 = .ok (.if_icmp .ge 12, 3) := by decide +kernel
theorem dX5_heightAt_10 : decode cX5_heightAt 10 = .ok (.aload_n 0, 1) := by decide +kernel
theorem dX5_heightAt_11 : decode cX5_heightAt 11 = .ok (.getfield 40, 3) := by decide +kernel
theorem dX5_heightAt_14 : decode cX5_heightAt 14 = .ok (.iload_n 1, 1) := by decide +kernel
theorem dX5_heightAt_15 : decode cX5_heightAt 15 = .ok (.iaload, 1) := by decide +kernel
theorem dX5_heightAt_16 : decode cX5_heightAt 16 = .ok (.goto 4, 3) := by decide +kernel
theorem dX5_heightAt_19 : decode cX5_heightAt 19 = .ok (.iconst 0, 1) := by decide +kernel
theorem dX5_heightAt_20 : decode cX5_heightAt 20 = .ok (.ireturn, 1) := by decide +kernel
theorem dX6_init_0 : decode cX6_init 0 = .ok (.aload_n 0, 1) := by decide +kernel
theorem dX6_init_1 : decode cX6_init 1 = .ok (.invokespecial 3, 3) := by decide +kernel
theorem dX6_init_4 : decode cX6_init 4 = .ok (.aload_n 0, 1) := by decide +kernel
theorem dX6_init_5 : decode cX6_init 5 = .ok (.bipush 12, 2) := by decide +kernel
theorem dX6_init_7 : decode cX6_init 7 = .ok (.newarray .int, 2) := by decide +kernel
theorem dX6_init_9 : decode cX6_init 9 = .ok (.putfield 11, 3) := by decide +kernel
theorem dX6_init_12 : decode cX6_init 12 = .ok (.aload_n 0, 1) := by decide +kernel
theorem dX6_init_13 : decode cX6_init 13 = .ok (.bipush 12, 2) := by decide +kernel
theorem dX6_init_15 : decode cX6_init 15 = .ok (.newarray .int, 2) := by decide +kernel
theorem dX6_init_17 : decode cX6_init 17 = .ok (.putfield 15, 3) := by decide +kernel
theorem dX6_init_20 : decode cX6_init 20 = .ok (.aload_n 0, 1) := by decide +kernel
theorem dX6_init_21 : decode cX6_init 21 = .ok (.bipush 12, 2) := by decide +kernel
theorem dX6_init_23 : decode cX6_init 23 = .ok (.newarray .int, 2) := by decide +kernel
theorem dX6_init_25 : decode cX6_init 25 = .ok (.putfield 18, 3) := by decide +kernel
theorem dX6_init_28 : decode cX6_init 28 = .ok (.aload_n 0, 1) := by decide +kernel
theorem dX6_init_29 : decode cX6_init 29 = .ok (.bipush 12, 2) := by decide +kernel
theorem dX6_init_31 : decode cX6_init 31 = .ok (.newarray .int, 2) := by decide +kernel
theorem dX6_init_33 : decode cX6_init 33 = .ok (.putfield 21, 3) := by decide +kernel
theorem dX6_init_36 : decode cX6_init 36 = .ok (.aload_n 0, 1) := by decide +kernel
theorem dX6_init_37 : decode cX6_init 37 = .ok (.iconst 0, 1) := by decide +kernel
theorem dX6_init_38 : decode cX6_init 38 = .ok (.putfield 24, 3) := by decide +kernel
theorem dX6_init_41 : decode cX6_init 41 = .ok (.aload_n 0, 1) := by decide +kernel
theorem dX6_init_42 : decode cX6_init 42 = .ok (.iconst 0, 1) := by decide +kernel
theorem dX6_init_43 : decode cX6_init 43 = .ok (.putfield 28, 3) := by decide +kernel
theorem dX6_init_46 : decode cX6_init 46 = .ok (.return_, 1) := by decide +kernel
theorem dX6_forget_0 : decode cX6_forget 0 = .ok (.aload_n 0, 1) := by decide +kernel
theorem dX6_forget_1 : decode cX6_forget 1 = .ok (.iconst 0, 1) := by decide +kernel
theorem dX6_forget_2 : decode cX6_forget 2 = .ok (.putfield 24, 3) := by decide +kernel
theorem dX6_forget_5 : decode cX6_forget 5 = .ok (.aload_n 0, 1) := by decide +kernel
theorem dX6_forget_6 : decode cX6_forget 6 = .ok (.iconst 0, 1) := by decide +kernel
theorem dX6_forget_7 : decode cX6_forget 7 = .ok (.putfield 28, 3) := by decide +kernel
theorem dX6_forget_10 : decode cX6_forget 10 = .ok (.return_, 1) := by decide +kernel
theorem dX6_remember_0 : decode cX6_remember 0 = .ok (.aload_n 0, 1) := by decide +kernel
theorem dX6_remember_1 : decode cX6_remember 1 = .ok (.getfield 11, 3) := by decide +kernel
theorem dX6_remember_4 : decode cX6_remember 4 = .ok (.aload_n 0, 1) := by decide +kernel
theorem dX6_remember_5 : decode cX6_remember 5 = .ok (.getfield 28, 3) := by decide +kernel
theorem dX6_remember_8 : decode cX6_remember 8 = .ok (.iload_n 1, 1) := by decide +kernel
theorem dX6_remember_9 : decode cX6_remember 9 = .ok (.iastore, 1) := by decide +kernel
theorem dX6_remember_10 : decode cX6_remember 10 = .ok (.aload_n 0, 1) := by decide +kernel
theorem dX6_remember_11 : decode cX6_remember 11 = .ok (.getfield 15, 3) := by decide +kernel
theorem dX6_remember_14 : decode cX6_remember 14 = .ok (.aload_n 0, 1) := by decide +kernel
theorem dX6_remember_15 : decode cX6_remember 15 = .ok (.getfield 28, 3) := by decide +kernel
theorem dX6_remember_18 : decode cX6_remember 18 = .ok (.iload_n 2, 1) := by decide +kernel
theorem dX6_remember_19 : decode cX6_remember 19 = .ok (.iastore, 1) := by decide +kernel
theorem dX6_remember_20 : decode cX6_remember 20 = .ok (.aload_n 0, 1) := by decide +kernel
theorem dX6_remember_21 : decode cX6_remember 21 = .ok (.getfield 18, 3) := by decide +kernel
theorem dX6_remember_24 : decode cX6_remember 24 = .ok (.aload_n 0, 1) := by decide +kernel
theorem dX6_remember_25 : decode cX6_remember 25 = .ok (.getfield 28, 3) := by decide +kernel
theorem dX6_remember_28 : decode cX6_remember 28 = .ok (.iload_n 3, 1) := by decide +kernel
theorem dX6_remember_29 : decode cX6_remember 29 = .ok (.iastore, 1) := by decide +kernel
theorem dX6_remember_30 : decode cX6_remember 30 = .ok (.aload_n 0, 1) := by decide +kernel
theorem dX6_remember_31 : decode cX6_remember 31 = .ok (.getfield 21, 3) := by decide +kernel
theorem dX6_remember_34 : decode cX6_remember 34 = .ok (.aload_n 0, 1) := by decide +kernel
theorem dX6_remember_35 : decode cX6_remember 35 = .ok (.getfield 28, 3) := by decide +kernel
theorem dX6_remember_38 : decode cX6_remember 38 = .ok (.iload 4, 2) := by decide +kernel
theorem dX6_remember_40 : decode cX6_remember 40 = .ok (.iastore, 1) := by decide +kernel
theorem dX6_remember_41 : decode cX6_remember 41 = .ok (.aload_n 0, 1) := by decide +kernel
theorem dX6_remember_42 : decode cX6_remember 42 = .ok (.aload_n 0, 1) := by decide +kernel
theorem dX6_remember_43 : decode cX6_remember 43 = .ok (.getfield 28, 3) := by decide +kernel
theorem dX6_remember_46 : decode cX6_remember 46 = .ok (.iconst 1, 1) := by decide +kernel
theorem dX6_remember_47 : decode cX6_remember 47 = .ok (.iadd, 1) := by decide +kernel
theorem dX6_remember_48 : decode cX6_remember 48 = .ok (.bipush 12, 2) := by decide +kernel
theorem dX6_remember_50 : decode cX6_remember 50 = .ok (.if_icmp .ge 12, 3) := by decide +kernel
theorem dX6_remember_53 : decode cX6_remember 53 = .ok (.aload_n 0, 1) := by decide +kernel
theorem dX6_remember_54 : decode cX6_remember 54 = .ok (.getfield 28, 3) := by decide +kernel
theorem dX6_remember_57 : decode cX6_remember 57 = .ok (.iconst 1, 1) := by decide +kernel
theorem dX6_remember_58 : decode cX6_remember 58 = .ok (.iadd, 1) := by decide +kernel
theorem dX6_remember_59 : decode cX6_remember 59 = .ok (.goto 4, 3) := by decide +kernel
theorem dX6_remember_62 : decode cX6_remember 62 = .ok (.iconst 0, 1) := by decide +kernel
theorem dX6_remember_63 : decode cX6_remember 63 = .ok (.putfield 28, 3) := by decide +kernel
theorem dX6_remember_66 : decode cX6_remember 66 = .ok (.aload_n 0, 1) := by decide +kernel
theorem dX6_remember_67 : decode cX6_remember 67 = .ok (.aload_n 0, 1) := by decide +kernel
theorem dX6_remember_68 : decode cX6_remember 68 = .ok (.getfield 24, 3) := by decide +kernel
theorem dX6_remember_71 : decode cX6_remember 71 = .ok (.iconst 1, 1) := by decide +kernel
theorem dX6_remember_72 : decode cX6_remember 72 = .ok (.iadd, 1) := by decide +kernel
theorem dX6_remember_73 : decode cX6_remember 73 = .ok (.bipush 12, 2) := by decide +kernel
theorem dX6_remember_75 : decode cX6_remember 75 = .ok (.invokestatic 31, 3) := by decide +kernel
theorem dX6_remember_78 : decode cX6_remember 78 = .ok (.putfield 24, 3) := by decide +kernel
theorem dX6_remember_81 : decode cX6_remember 81 = .ok (.return_, 1) := by decide +kernel
theorem dX6_newest_0 : decode cX6_newest 0 = .ok (.aload_n 0, 1) := by decide +kernel
theorem dX6_newest_1 : decode cX6_newest 1 = .ok (.getfield 24, 3) := by decide +kernel
theorem dX6_newest_4 : decode cX6_newest 4 = .ok (.ifCond .ne 5, 3) := by decide +kernel
theorem dX6_newest_7 : decode cX6_newest 7 = .ok (.iconst (-1), 1) := by decide +kernel
theorem dX6_newest_8 : decode cX6_newest 8 = .ok (.ireturn, 1) := by decide +kernel
theorem dX6_newest_9 : decode cX6_newest 9 = .ok (.aload_n 0, 1) := by decide +kernel
theorem dX6_newest_10 : decode cX6_newest 10 = .ok (.getfield 28, 3) := by decide +kernel
theorem dX6_newest_13 : decode cX6_newest 13 = .ok (.ifCond .le 12, 3) := by decide +kernel
theorem dX6_newest_16 : decode cX6_newest 16 = .ok (.aload_n 0, 1) := by decide +kernel
theorem dX6_newest_17 : decode cX6_newest 17 = .ok (.getfield 28, 3) := by decide +kernel
theorem dX6_newest_20 : decode cX6_newest 20 = .ok (.iconst 1, 1) := by decide +kernel
theorem dX6_newest_21 : decode cX6_newest 21 = .ok (.isub, 1) := by decide +kernel
theorem dX6_newest_22 : decode cX6_newest 22 = .ok (.goto 5, 3) := by decide +kernel
theorem dX6_newest_25 : decode cX6_newest 25 = .ok (.bipush 11, 2) := by decide +kernel
theorem dX6_newest_27 : decode cX6_newest 27 = .ok (.ireturn, 1) := by decide +kernel
theorem dX6_dropNewest_0 : decode cX6_dropNewest 0 = .ok (.aload_n 0, 1) := by decide +kernel
theorem dX6_dropNewest_1 : decode cX6_dropNewest 1 = .ok (.getfield 24, 3) := by decide +kernel
theorem dX6_dropNewest_4 : decode cX6_dropNewest 4 = .ok (.ifCond .le 21, 3) := by decide +kernel
theorem dX6_dropNewest_7 : decode cX6_dropNewest 7 = .ok (.aload_n 0, 1) := by decide +kernel
theorem dX6_dropNewest_8 : decode cX6_dropNewest 8 = .ok (.aload_n 0, 1) := by decide +kernel
theorem dX6_dropNewest_9 : decode cX6_dropNewest 9 = .ok (.invokevirtual 37, 3) := by decide +kernel
theorem dX6_dropNewest_12 : decode cX6_dropNewest 12 = .ok (.putfield 28, 3) := by decide +kernel
theorem dX6_dropNewest_15 : decode cX6_dropNewest 15 = .ok (.aload_n 0, 1) := by decide +kernel
theorem dX6_dropNewest_16 : decode cX6_dropNewest 16 = .ok (.dup, 1) := by decide +kernel
theorem dX6_dropNewest_17 : decode cX6_dropNewest 17 = .ok (.getfield 24, 3) := by decide +kernel
theorem dX6_dropNewest_20 : decode cX6_dropNewest 20 = .ok (.iconst 1, 1) := by decide +kernel
theorem dX6_dropNewest_21 : decode cX6_dropNewest 21 = .ok (.isub, 1) := by decide +kernel
theorem dX6_dropNewest_22 : decode cX6_dropNewest 22 = .ok (.putfield 24, 3) := by decide +kernel
theorem dX6_dropNewest_25 : decode cX6_dropNewest 25 = .ok (.return_, 1) := by decide +kernel
theorem dX7_init_0 : decode cX7_init 0 = .ok (.aload_n 0, 1) := by decide +kernel
theorem dX7_init_1 : decode cX7_init 1 = .ok (.invokespecial 5, 3) := by decide +kernel
theorem dX7_init_4 : decode cX7_init 4 = .ok (.aload_n 0, 1) := by decide +kernel
theorem dX7_init_5 : decode cX7_init 5 = .ok (.sipush 401, 3) := by decide +kernel
theorem dX7_init_8 : decode cX7_init 8 = .ok (.newarray .int, 2) := by decide +kernel
theorem dX7_init_10 : decode cX7_init 10 = .ok (.putfield 11, 3) := by decide +kernel
theorem dX7_init_13 : decode cX7_init 13 = .ok (.aload_n 0, 1) := by decide +kernel
theorem dX7_init_14 : decode cX7_init 14 = .ok (.sipush 401, 3) := by decide +kernel
theorem dX7_init_17 : decode cX7_init 17 = .ok (.newarray .int, 2) := by decide +kernel
theorem dX7_init_19 : decode cX7_init 19 = .ok (.putfield 15, 3) := by decide +kernel
theorem dX7_init_22 : decode cX7_init 22 = .ok (.aload_n 0, 1) := by decide +kernel
theorem dX7_init_23 : decode cX7_init 23 = .ok (.iconst 0, 1) := by decide +kernel
theorem dX7_init_24 : decode cX7_init 24 = .ok (.putfield 18, 3) := by decide +kernel
theorem dX7_init_27 : decode cX7_init 27 = .ok (.aload_n 0, 1) := by decide +kernel
theorem dX7_init_28 : decode cX7_init 28 = .ok (.iconst 0, 1) := by decide +kernel
theorem dX7_init_29 : decode cX7_init 29 = .ok (.putfield 22, 3) := by decide +kernel
theorem dX7_init_32 : decode cX7_init 32 = .ok (.aload_n 0, 1) := by decide +kernel
theorem dX7_init_33 : decode cX7_init 33 = .ok (.bipush 7, 2) := by decide +kernel
theorem dX7_init_35 : decode cX7_init 35 = .ok (.newarray .int, 2) := by decide +kernel
theorem dX7_init_37 : decode cX7_init 37 = .ok (.putfield 25, 3) := by decide +kernel
theorem dX7_init_40 : decode cX7_init 40 = .ok (.aload_n 0, 1) := by decide +kernel
theorem dX7_init_41 : decode cX7_init 41 = .ok (.iconst 0, 1) := by decide +kernel
theorem dX7_init_42 : decode cX7_init 42 = .ok (.putfield 28, 3) := by decide +kernel
theorem dX7_init_45 : decode cX7_init 45 = .ok (.aload_n 0, 1) := by decide +kernel
theorem dX7_init_46 : decode cX7_init 46 = .ok (.iconst 0, 1) := by decide +kernel
theorem dX7_init_47 : decode cX7_init 47 = .ok (.putfield 31, 3) := by decide +kernel
theorem dX7_init_50 : decode cX7_init 50 = .ok (.aload_n 0, 1) := by decide +kernel
theorem dX7_init_51 : decode cX7_init 51 = .ok (.iconst (-1), 1) := by decide +kernel
theorem dX7_init_52 : decode cX7_init 52 = .ok (.putfield 34, 3) := by decide +kernel
theorem dX7_init_55 : decode cX7_init 55 = .ok (.return_, 1) := by decide +kernel
theorem dX7_begin_0 : decode cX7_begin 0 = .ok (.aload_n 0, 1) := by decide +kernel
theorem dX7_begin_1 : decode cX7_begin 1 = .ok (.iconst 0, 1) := by decide +kernel
theorem dX7_begin_2 : decode cX7_begin 2 = .ok (.putfield 18, 3) := by decide +kernel
theorem dX7_begin_5 : decode cX7_begin 5 = .ok (.aload_n 0, 1) := by decide +kernel
theorem dX7_begin_6 : decode cX7_begin 6 = .ok (.iconst 0, 1) := by decide +kernel
theorem dX7_begin_7 : decode cX7_begin 7 = .ok (.putfield 28, 3) := by decide +kernel
theorem dX7_begin_10 : decode cX7_begin 10 = .ok (.return_, 1) := by decide +kernel
theorem dX7_become_0 : decode cX7_become 0 = .ok (.aload_n 0, 1) := by decide +kernel
theorem dX7_become_1 : decode cX7_become 1 = .ok (.aload_n 1, 1) := by decide +kernel
theorem dX7_become_2 : decode cX7_become 2 = .ok (.getfield 18, 3) := by decide +kernel
theorem dX7_become_5 : decode cX7_become 5 = .ok (.putfield 18, 3) := by decide +kernel
theorem dX7_become_8 : decode cX7_become 8 = .ok (.aload_n 0, 1) := by decide +kernel
theorem dX7_become_9 : decode cX7_become 9 = .ok (.aload_n 1, 1) := by decide +kernel
theorem dX7_become_10 : decode cX7_become 10 = .ok (.getfield 28, 3) := by decide +kernel
theorem dX7_become_13 : decode cX7_become 13 = .ok (.putfield 28, 3) := by decide +kernel
theorem dX7_become_16 : decode cX7_become 16 = .ok (.aload_n 1, 1) := by decide +kernel
theorem dX7_become_17 : decode cX7_become 17 = .ok (.getfield 11, 3) := by decide +kernel
theorem dX7_become_20 : decode cX7_become 20 = .ok (.iconst 0, 1) := by decide +kernel
theorem dX7_become_21 : decode cX7_become 21 = .ok (.aload_n 0, 1) := by decide +kernel
theorem dX7_become_22 : decode cX7_become 22 = .ok (.getfield 11, 3) := by decide +kernel
theorem dX7_become_25 : decode cX7_become 25 = .ok (.iconst 0, 1) := by decide +kernel
theorem dX7_become_26 : decode cX7_become 26 = .ok (.aload_n 0, 1) := by decide +kernel
theorem dX7_become_27 : decode cX7_become 27 = .ok (.getfield 11, 3) := by decide +kernel
theorem dX7_become_30 : decode cX7_become 30 = .ok (.arraylength, 1) := by decide +kernel
theorem dX7_become_31 : decode cX7_become 31 = .ok (.invokestatic 37, 3) := by decide +kernel
theorem dX7_become_34 : decode cX7_become 34 = .ok (.return_, 1) := by decide +kernel
