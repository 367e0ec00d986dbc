theorem dX0_init_0 : decode cX0_init 0 = .ok (.aload_n 0, 1) := by decide +kernel
theorem dX0_init_1 : decode cX0_init 1 = .ok (.invokespecial 3, 3) := by decide +kernel
theorem dX0_init_4 : decode cX0_init 4 = .ok (.aload_n 0, 1) := by decide +kernel
theorem dX0_init_5 : decode cX0_init 5 = .ok (.iconst 0, 1) := by decide +kernel
theorem dX0_init_6 : decode cX0_init 6 = .ok (.putfield 9, 3) := by decide +kernel
theorem dX0_init_9 : decode cX0_init 9 = .ok (.aload_n 0, 1) := by decide +kernel
theorem dX0_init_10 : decode cX0_init 10 = .ok (.bipush 8, 2) := by decide +kernel
theorem dX0_init_12 : decode cX0_init 12 = .ok (.newarray .int, 2) := by decide +kernel
theorem dX0_init_14 : decode cX0_init 14 = .ok (.putfield 15, 3) := by decide +kernel
theorem dX0_init_17 : decode cX0_init 17 = .ok (.aload_n 0, 1) := by decide +kernel
theorem dX0_init_18 : decode cX0_init 18 = .ok (.bipush 8, 2) := by decide +kernel
theorem dX0_init_20 : decode cX0_init 20 = .ok (.newarray .int, 2) := by decide +kernel
theorem dX0_init_22 : decode cX0_init 22 = .ok (.putfield 19, 3) := by decide +kernel
theorem dX0_init_25 : decode cX0_init 25 = .ok (.return_, 1) := by decide +kernel
theorem dX0_begin_0 : decode cX0_begin 0 = .ok (.aload_n 0, 1) := by decide +kernel
theorem dX0_begin_1 : decode cX0_begin 1 = .ok (.iconst 0, 1) := by decide +kernel
theorem dX0_begin_2 : decode cX0_begin 2 = .ok (.putfield 9, 3) := by decide +kernel
theorem dX0_begin_5 : decode cX0_begin 5 = .ok (.aload_n 0, 1) := by decide +kernel
theorem dX0_begin_6 : decode cX0_begin 6 = .ok (.getfield 19, 3) := by decide +kernel
theorem dX0_begin_9 : decode cX0_begin 9 = .ok (.iconst 0, 1) := by decide +kernel
theorem dX0_begin_10 : decode cX0_begin 10 = .ok (.invokestatic 22, 3) := by decide +kernel
theorem dX0_begin_13 : decode cX0_begin 13 = .ok (.return_, 1) := by decide +kernel
theorem dX0_become_0 : decode cX0_become 0 = .ok (.aload_n 0, 1) := by decide +kernel
theorem dX0_become_1 : decode cX0_become 1 = .ok (.aload_n 1, 1) := by decide +kernel
theorem dX0_become_2 : decode cX0_become 2 = .ok (.getfield 9, 3) := by decide +kernel
theorem dX0_become_5 : decode cX0_become 5 = .ok (.putfield 9, 3) := by decide +kernel
theorem dX0_become_8 : decode cX0_become 8 = .ok (.aload_n 1, 1) := by decide +kernel
theorem dX0_become_9 : decode cX0_become 9 = .ok (.getfield 15, 3) := by decide +kernel
theorem dX0_become_12 : decode cX0_become 12 = .ok (.iconst 0, 1) := by decide +kernel
theorem dX0_become_13 : decode cX0_become 13 = .ok (.aload_n 0, 1) := by decide +kernel
theorem dX0_become_14 : decode cX0_become 14 = .ok (.getfield 15, 3) := by decide +kernel
theorem dX0_become_17 : decode cX0_become 17 = .ok (.iconst 0, 1) := by decide +kernel
theorem dX0_become_18 : decode cX0_become 18 = .ok (.bipush 8, 2) := by decide +kernel
theorem dX0_become_20 : decode cX0_become 20 = .ok (.invokestatic 28, 3) := by decide +kernel
theorem dX0_become_23 : decode cX0_become 23 = .ok (.aload_n 1, 1) := by decide +kernel
theorem dX0_become_24 : decode cX0_become 24 = .ok (.getfield 19, 3) := by decide +kernel
theorem dX0_become_27 : decode cX0_become 27 = .ok (.iconst 0, 1) := by decide +kernel
theorem dX0_become_28 : decode cX0_become 28 = .ok (.aload_n 0, 1) := by decide +kernel
theorem dX0_become_29 : decode cX0_become 29 = .ok (.getfield 19, 3) := by decide +kernel
theorem dX0_become_32 : decode cX0_become 32 = .ok (.iconst 0, 1) := by decide +kernel
theorem dX0_become_33 : decode cX0_become 33 = .ok (.bipush 8, 2) := by decide +kernel
theorem dX0_become_35 : decode cX0_become 35 = .ok (.invokestatic 28, 3) := by decide +kernel
theorem dX0_become_38 : decode cX0_become 38 = .ok (.return_, 1) := by decide +kernel
theorem dX0_add_0 : decode cX0_add 0 = .ok (.iload_n 1, 1) := by decide +kernel
theorem dX0_add_1 : decode cX0_add 1 = .ok (.iconst 1, 1) := by decide +kernel
theorem dX0_add_2 : decode cX0_add 2 = .ok (.if_icmp .lt 18, 3) := by decide +kernel
theorem dX0_add_5 : decode cX0_add 5 = .ok (.iload_n 1, 1) := by decide +kernel
theorem dX0_add_6 : decode cX0_add 6 = .ok (.bipush 99, 2) := by decide +kernel
theorem dX0_add_8 : decode cX0_add 8 = .ok (.if_icmp .gt 12, 3) := by decide +kernel
theorem dX0_add_11 : decode cX0_add 11 = .ok (.aload_n 0, 1) := by decide +kernel
theorem dX0_add_12 : decode cX0_add 12 = .ok (.getfield 9, 3) := by decide +kernel
theorem dX0_add_15 : decode cX0_add 15 = .ok (.bipush 8, 2) := by decide +kernel
theorem dX0_add_17 : decode cX0_add 17 = .ok (.if_icmp .lt 5, 3) := by decide +kernel
theorem dX0_add_20 : decode cX0_add 20 = .ok (.iconst (-1), 1) := by decide +kernel
theorem dX0_add_21 : decode cX0_add 21 = .ok (.ireturn, 1) := by decide +kernel
theorem dX0_add_22 : decode cX0_add 22 = .ok (.aload_n 0, 1) := by decide +kernel
theorem dX0_add_23 : decode cX0_add 23 = .ok (.getfield 15, 3) := by decide +kernel
theorem dX0_add_26 : decode cX0_add 26 = .ok (.aload_n 0, 1) := by decide +kernel
theorem dX0_add_27 : decode cX0_add 27 = .ok (.getfield 9, 3) := by decide +kernel
theorem dX0_add_30 : decode cX0_add 30 = .ok (.iload_n 1, 1) := by decide +kernel
theorem dX0_add_31 : decode cX0_add 31 = .ok (.iastore, 1) := by decide +kernel
theorem dX0_add_32 : decode cX0_add 32 = .ok (.aload_n 0, 1) := by decide +kernel
theorem dX0_add_33 : decode cX0_add 33 = .ok (.dup, 1) := by decide +kernel
theorem dX0_add_34 : decode cX0_add 34 = .ok (.getfield 9, 3) := by decide +kernel
theorem dX0_add_37 : decode cX0_add 37 = .ok (.iconst 1, 1) := by decide +kernel
theorem dX0_add_38 : decode cX0_add 38 = .ok (.iadd, 1) := by decide +kernel
theorem dX0_add_39 : decode cX0_add 39 = .ok (.putfield 9, 3) := by decide +kernel
theorem dX0_add_42 : decode cX0_add 42 = .ok (.aload_n 0, 1) := by decide +kernel
theorem dX0_add_43 : decode cX0_add 43 = .ok (.getfield 9, 3) := by decide +kernel
theorem dX0_add_46 : decode cX0_add 46 = .ok (.iconst 1, 1) := by decide +kernel
theorem dX0_add_47 : decode cX0_add 47 = .ok (.isub, 1) := by decide +kernel
theorem dX0_add_48 : decode cX0_add 48 = .ok (.ireturn, 1) := by decide +kernel
theorem dX0_setFoes_0 : decode cX0_setFoes 0 = .ok (.iload_n 1, 1) := by decide +kernel
theorem dX0_setFoes_1 : decode cX0_setFoes 1 = .ok (.ifCond .lt 28, 3) := by decide +kernel
theorem dX0_setFoes_4 : decode cX0_setFoes 4 = .ok (.iload_n 1, 1) := by decide +kernel
theorem dX0_setFoes_5 : decode cX0_setFoes 5 = .ok (.aload_n 0, 1) := by decide +kernel
theorem dX0_setFoes_6 : decode cX0_setFoes 6 = .ok (.getfield 9, 3) := by decide +kernel
theorem dX0_setFoes_9 : decode cX0_setFoes 9 = .ok (.if_icmp .ge 20, 3) := by decide +kernel
theorem dX0_setFoes_12 : decode cX0_setFoes 12 = .ok (.iload_n 2, 1) := by decide +kernel
theorem dX0_setFoes_13 : decode cX0_setFoes 13 = .ok (.ifCond .lt 16, 3) := by decide +kernel
theorem dX0_setFoes_16 : decode cX0_setFoes 16 = .ok (.iload_n 2, 1) := by decide +kernel
theorem dX0_setFoes_17 : decode cX0_setFoes 17 = .ok (.aload_n 0, 1) := by decide +kernel
theorem dX0_setFoes_18 : decode cX0_setFoes 18 = .ok (.getfield 9, 3) := by decide +kernel
theorem dX0_setFoes_21 : decode cX0_setFoes 21 = .ok (.if_icmp .ge 8, 3) := by decide +kernel
theorem dX0_setFoes_24 : decode cX0_setFoes 24 = .ok (.iload_n 1, 1) := by decide +kernel
theorem dX0_setFoes_25 : decode cX0_setFoes 25 = .ok (.iload_n 2, 1) := by decide +kernel
theorem dX0_setFoes_26 : decode cX0_setFoes 26 = .ok (.if_icmp .ne 5, 3) := by decide +kernel
theorem dX0_setFoes_29 : decode cX0_setFoes 29 = .ok (.iconst 0, 1) := by decide +kernel
theorem dX0_setFoes_30 : decode cX0_setFoes 30 = .ok (.ireturn, 1) := by decide +kernel
theorem dX0_setFoes_31 : decode cX0_setFoes 31 = .ok (.iload_n 3, 1) := by decide +kernel
theorem dX0_setFoes_32 : decode cX0_setFoes 32 = .ok (.ifCond .eq 30, 3) := by decide +kernel
theorem dX0_setFoes_35 : decode cX0_setFoes 35 = .ok (.aload_n 0, 1) := by decide +kernel
theorem dX0_setFoes_36 : decode cX0_setFoes 36 = .ok (.getfield 19, 3) := by decide +kernel
theorem dX0_setFoes_39 : decode cX0_setFoes 39 = .ok (.iload_n 1, 1) := by decide +kernel
theorem dX0_setFoes_40 : decode cX0_setFoes 40 = .ok (.dup2, 1) := by decide +kernel
theorem dX0_setFoes_41 : decode cX0_setFoes 41 = .ok (.iaload, 1) := by decide +kernel
theorem dX0_setFoes_42 : decode cX0_setFoes 42 = .ok (.iconst 1, 1) := by decide +kernel
theorem dX0_setFoes_43 : decode cX0_setFoes 43 = .ok (.iload_n 2, 1) := by decide +kernel
theorem dX0_setFoes_44 : decode cX0_setFoes 44 = .ok (.ishl, 1) := by decide +kernel
theorem dX0_setFoes_45 : decode cX0_setFoes 45 = .ok (.ior, 1) := by decide +kernel
theorem dX0_setFoes_46 : decode cX0_setFoes 46 = .ok (.iastore, 1) := by decide +kernel
theorem dX0_setFoes_47 : decode cX0_setFoes 47 = .ok (.aload_n 0, 1) := by decide +kernel
theorem dX0_setFoes_48 : decode cX0_setFoes 48 = .ok (.getfield 19, 3) := by decide +kernel
theorem dX0_setFoes_51 : decode cX0_setFoes 51 = .ok (.iload_n 2, 1) := by decide +kernel
theorem dX0_setFoes_52 : decode cX0_setFoes 52 = .ok (.dup2, 1) := by decide +kernel
theorem dX0_setFoes_53 : decode cX0_setFoes 53 = .ok (.iaload, 1) := by decide +kernel
theorem dX0_setFoes_54 : decode cX0_setFoes 54 = .ok (.iconst 1, 1) := by decide +kernel
theorem dX0_setFoes_55 : decode cX0_setFoes 55 = .ok (.iload_n 1, 1) := by decide +kernel
theorem dX0_setFoes_56 : decode cX0_setFoes 56 = .ok (.ishl, 1) := by decide +kernel
theorem dX0_setFoes_57 : decode cX0_setFoes 57 = .ok (.ior, 1) := by decide +kernel
theorem dX0_setFoes_58 : decode cX0_setFoes 58 = .ok (.iastore, 1) := by decide +kernel
theorem dX0_setFoes_59 : decode cX0_setFoes 59 = .ok (.goto 31, 3) := by decide +kernel
theorem dX0_setFoes_62 : decode cX0_setFoes 62 = .ok (.aload_n 0, 1) := by decide +kernel
theorem dX0_setFoes_63 : decode cX0_setFoes 63 = .ok (.getfield 19, 3) := by decide +kernel
theorem dX0_setFoes_66 : decode cX0_setFoes 66 = .ok (.iload_n 1, 1) := by decide +kernel
theorem dX0_setFoes_67 : decode cX0_setFoes 67 = .ok (.dup2, 1) := by decide +kernel
theorem dX0_setFoes_68 : decode cX0_setFoes 68 = .ok (.iaload, 1) := by decide +kernel
theorem dX0_setFoes_69 : decode cX0_setFoes 69 = .ok (.iconst 1, 1) := by decide +kernel
theorem dX0_setFoes_70 : decode cX0_setFoes 70 = .ok (.iload_n 2, 1) := by decide +kernel
theorem dX0_setFoes_71 : decode cX0_setFoes 71 = .ok (.ishl, 1) := by decide +kernel
theorem dX0_setFoes_72 : decode cX0_setFoes 72 = .ok (.iconst (-1), 1) := by decide +kernel
theorem dX0_setFoes_73 : decode cX0_setFoes 73 = .ok (.ixor, 1) := by decide +kernel
theorem dX0_setFoes_74 : decode cX0_setFoes 74 = .ok (.iand, 1) := by decide +kernel
theorem dX0_setFoes_75 : decode cX0_setFoes 75 = .ok (.iastore, 1) := by decide +kernel
theorem dX0_setFoes_76 : decode cX0_setFoes 76 = .ok (.aload_n 0, 1) := by decide +kernel
theorem dX0_setFoes_77 : decode cX0_setFoes 77 = .ok (.getfield 19, 3) := by decide +kernel
theorem dX0_setFoes_80 : decode cX0_setFoes 80 = .ok (.iload_n 2, 1) := by decide +kernel
theorem dX0_setFoes_81 : decode cX0_setFoes 81 = .ok (.dup2, 1) := by decide +kernel
theorem dX0_setFoes_82 : decode cX0_setFoes 82 = .ok (.iaload, 1) := by decide +kernel
theorem dX0_setFoes_83 : decode cX0_setFoes 83 = .ok (.iconst 1, 1) := by decide +kernel
theorem dX0_setFoes_84 : decode cX0_setFoes 84 = .ok (.iload_n 1, 1) := by decide +kernel
theorem dX0_setFoes_85 : decode cX0_setFoes 85 = .ok (.ishl, 1) := by decide +kernel
theorem dX0_setFoes_86 : decode cX0_setFoes 86 = .ok (.iconst (-1), 1) := by decide +kernel
theorem dX0_setFoes_87 : decode cX0_setFoes 87 = .ok (.ixor, 1) := by decide +kernel
theorem dX0_setFoes_88 : decode cX0_setFoes 88 = .ok (.iand, 1) := by decide +kernel
theorem dX0_setFoes_89 : decode cX0_setFoes 89 = .ok (.iastore, 1) := by decide +kernel
theorem dX0_setFoes_90 : decode cX0_setFoes 90 = .ok (.iconst 1, 1) := by decide +kernel
theorem dX0_setFoes_91 : decode cX0_setFoes 91 = .ok (.ireturn, 1) := by decide +kernel
theorem dX0_fewest_0 : decode cX0_fewest 0 = .ok (.iconst (-1), 1) := by decide +kernel
theorem dX0_fewest_1 : decode cX0_fewest 1 = .ok (.istore_n 2, 1) := by decide +kernel
theorem dX0_fewest_2 : decode cX0_fewest 2 = .ok (.iconst 1, 1) := by decide +kernel
theorem dX0_fewest_3 : decode cX0_fewest 3 = .ok (.istore_n 3, 1) := by decide +kernel
theorem dX0_fewest_4 : decode cX0_fewest 4 = .ok (.iload_n 3, 1) := by decide +kernel
theorem dX0_fewest_5 : decode cX0_fewest 5 = .ok (.iconst 1, 1) := by decide +kernel
theorem dX0_fewest_6 : decode cX0_fewest 6 = .ok (.aload_n 0, 1) := by decide +kernel
theorem dX0_fewest_7 : decode cX0_fewest 7 = .ok (.getfield 9, 3) := by decide +kernel
theorem dX0_fewest_10 : decode cX0_fewest 10 = .ok (.ishl, 1) := by decide +kernel
theorem dX0_fewest_11 : decode cX0_fewest 11 = .ok (.if_icmp .ge 48, 3) := by decide +kernel
theorem dX0_fewest_14 : decode cX0_fewest 14 = .ok (.iload_n 2, 1) := by decide +kernel
theorem dX0_fewest_15 : decode cX0_fewest 15 = .ok (.iconst (-1), 1) := by decide +kernel
theorem dX0_fewest_16 : decode cX0_fewest 16 = .ok (.if_icmp .eq 14, 3) := by decide +kernel
theorem dX0_fewest_19 : decode cX0_fewest 19 = .ok (.iload_n 3, 1) := by decide +kernel
theorem dX0_fewest_20 : decode cX0_fewest 20 = .ok (.invokestatic 34, 3) := by decide +kernel
theorem dX0_fewest_23 : decode cX0_fewest 23 = .ok (.iload_n 2, 1) := by decide +kernel
theorem dX0_fewest_24 : decode cX0_fewest 24 = .ok (.invokestatic 34, 3) := by decide +kernel
theorem dX0_fewest_27 : decode cX0_fewest 27 = .ok (.if_icmp .ge 7, 3) := by decide +kernel
theorem dX0_fewest_30 : decode cX0_fewest 30 = .ok (.iconst 1, 1) := by decide +kernel
theorem dX0_fewest_31 : decode cX0_fewest 31 = .ok (.goto 4, 3) := by decide +kernel
theorem dX0_fewest_34 : decode cX0_fewest 34 = .ok (.iconst 0, 1) := by decide +kernel
theorem dX0_fewest_35 : decode cX0_fewest 35 = .ok (.istore 4, 2) := by decide +kernel
theorem dX0_fewest_37 : decode cX0_fewest 37 = .ok (.iload 4, 2) := by decide +kernel
theorem dX0_fewest_39 : decode cX0_fewest 39 = .ok (.ifCond .eq 14, 3) := by decide +kernel
theorem dX0_fewest_42 : decode cX0_fewest 42 = .ok (.aload_n 0, 1) := by decide +kernel
theorem dX0_fewest_43 : decode cX0_fewest 43 = .ok (.iload_n 3, 1) := by decide +kernel
theorem dX0_fewest_44 : decode cX0_fewest 44 = .ok (.invokevirtual 40, 3) := by decide +kernel
theorem dX0_fewest_47 : decode cX0_fewest 47 = .ok (.iload_n 1, 1) := by decide +kernel
theorem dX0_fewest_48 : decode cX0_fewest 48 = .ok (.if_icmp .lt 5, 3) := by decide +kernel
theorem dX0_fewest_51 : decode cX0_fewest 51 = .ok (.iload_n 3, 1) := by decide +kernel
theorem dX0_fewest_52 : decode cX0_fewest 52 = .ok (.istore_n 2, 1) := by decide +kernel
theorem dX0_fewest_53 : decode cX0_fewest 53 = .ok (.iinc 3 1, 3) := by decide +kernel
theorem dX0_fewest_56 : decode cX0_fewest 56 = .ok (.goto (-52), 3) := by decide +kernel
theorem dX0_fewest_59 : decode cX0_fewest 59 = .ok (.iload_n 2, 1) := by decide +kernel
theorem dX0_fewest_60 : decode cX0_fewest 60 = .ok (.ireturn, 1) := by decide +kernel
theorem dX0_strengthOf_0 : decode cX0_strengthOf 0 = .ok (.iconst 0, 1) := by decide +kernel
theorem dX0_strengthOf_1 : decode cX0_strengthOf 1 = .ok (.istore_n 2, 1) := by decide +kernel
theorem dX0_strengthOf_2 : decode cX0_strengthOf 2 = .ok (.iconst 0, 1) := by decide +kernel
theorem dX0_strengthOf_3 : decode cX0_strengthOf 3 = .ok (.istore_n 3, 1) := by decide +kernel
theorem dX0_strengthOf_4 : decode cX0_strengthOf 4 = .ok (.iload_n 3, 1) := by decide +kernel
theorem dX0_strengthOf_5 : decode cX0_strengthOf 5 = .ok (.aload_n 0, 1) := by decide +kernel
theorem dX0_strengthOf_6 : decode cX0_strengthOf 6 = .ok (.getfield 9, 3) := by decide +kernel
theorem dX0_strengthOf_9 : decode cX0_strengthOf 9 = .ok (.if_icmp .ge 39, 3) := by decide +kernel
theorem dX0_strengthOf_12 : decode cX0_strengthOf 12 = .ok (.iload_n 1, 1) := by decide +kernel
theorem dX0_strengthOf_13 : decode cX0_strengthOf 13 = .ok (.iconst 1, 1) := by decide +kernel
theorem dX0_strengthOf_14 : decode cX0_strengthOf 14 = .ok (.iload_n 3, 1) := by decide +kernel
theorem dX0_strengthOf_15 : decode cX0_strengthOf 15 = .ok (.ishl, 1) := by decide +kernel
theorem dX0_strengthOf_16 : decode cX0_strengthOf 16 = .ok (.iand, 1) := by decide +kernel
theorem dX0_strengthOf_17 : decode cX0_strengthOf 17 = .ok (.ifCond .eq 25, 3) := by decide +kernel
theorem dX0_strengthOf_20 : decode cX0_strengthOf 20 = .ok (.aload_n 0, 1) := by decide +kernel
theorem dX0_strengthOf_21 : decode cX0_strengthOf 21 = .ok (.getfield 19, 3) := by decide +kernel
theorem dX0_strengthOf_24 : decode cX0_strengthOf 24 = .ok (.iload_n 3, 1) := by decide +kernel
theorem dX0_strengthOf_25 : decode cX0_strengthOf 25 = .ok (.iaload, 1) := by decide +kernel
theorem dX0_strengthOf_26 : decode cX0_strengthOf 26 = .ok (.iload_n 1, 1) := by decide +kernel
theorem dX0_strengthOf_27 : decode cX0_strengthOf 27 = .ok (.iand, 1) := by decide +kernel
theorem dX0_strengthOf_28 : decode cX0_strengthOf 28 = .ok (.ifCond .eq 5, 3) := by decide +kernel
theorem dX0_strengthOf_31 : decode cX0_strengthOf 31 = .ok (.iconst 0, 1) := by decide +kernel
theorem dX0_strengthOf_32 : decode cX0_strengthOf 32 = .ok (.ireturn, 1) := by decide +kernel
theorem dX0_strengthOf_33 : decode cX0_strengthOf 33 = .ok (.iload_n 2, 1) := by decide +kernel
theorem dX0_strengthOf_34 : decode cX0_strengthOf 34 = .ok (.aload_n 0, 1) := by decide +kernel
theorem dX0_strengthOf_35 : decode cX0_strengthOf 35 = .ok (.getfield 15, 3) := by decide +kernel
theorem dX0_strengthOf_38 : decode cX0_strengthOf 38 = .ok (.iload_n 3, 1) := by decide +kernel
theorem dX0_strengthOf_39 : decode cX0_strengthOf 39 = .ok (.iaload, 1) := by decide +kernel
theorem dX0_strengthOf_40 : decode cX0_strengthOf 40 = .ok (.iadd, 1) := by decide +kernel
theorem dX0_strengthOf_41 : decode cX0_strengthOf 41 = .ok (.istore_n 2, 1) := by decide +kernel
theorem dX0_strengthOf_42 : decode cX0_strengthOf 42 = .ok (.iinc 3 1, 3) := by decide +kernel
theorem dX0_strengthOf_45 : decode cX0_strengthOf 45 = .ok (.goto (-41), 3) := by decide +kernel
theorem dX0_strengthOf_48 : decode cX0_strengthOf 48 = .ok (.iload_n 2, 1) := by decide +kernel
theorem dX0_strengthOf_49 : decode cX0_strengthOf 49 = .ok (.ireturn, 1) := by decide +kernel
theorem dX1_init_0 : decode cX1_init 0 = .ok (.aload_n 0, 1) := by decide +kernel
theorem dX1_init_1 : decode cX1_init 1 = .ok (.invokespecial 1, 3) := by decide +kernel
theorem dX1_init_4 : decode cX1_init 4 = .ok (.aload_n 0, 1) := by decide +kernel
theorem dX1_init_5 : decode cX1_init 5 = .ok (.iconst 0, 1) := by decide +kernel
theorem dX1_init_6 : decode cX1_init 6 = .ok (.putfield 7, 3) := by decide +kernel
theorem dX1_init_9 : decode cX1_init 9 = .ok (.aload_n 0, 1) := by decide +kernel
theorem dX1_init_10 : decode cX1_init 10 = .ok (.iconst 0, 1) := by decide +kernel
theorem dX1_init_11 : decode cX1_init 11 = .ok (.putfield 13, 3) := by decide +kernel
theorem dX1_init_14 : decode cX1_init 14 = .ok (.aload_n 0, 1) := by decide +kernel
theorem dX1_init_15 : decode cX1_init 15 = .ok (.iconst 0, 1) := by decide +kernel
theorem dX1_init_16 : decode cX1_init 16 = .ok (.putfield 16, 3) := by decide +kernel
theorem dX1_init_19 : decode cX1_init 19 = .ok (.aload_n 0, 1) := by decide +kernel
theorem dX1_init_20 : decode cX1_init 20 = .ok (.iconst 0, 1) := by decide +kernel
theorem dX1_init_21 : decode cX1_init 21 = .ok (.putfield 19, 3) := by decide +kernel
theorem dX1_init_24 : decode cX1_init 24 = .ok (.aload_n 0, 1) := by decide +kernel
theorem dX1_init_25 : decode cX1_init 25 = .ok (.iconst 0, 1) := by decide +kernel
theorem dX1_init_26 : decode cX1_init 26 = .ok (.putfield 22, 3) := by decide +kernel
theorem dX1_init_29 : decode cX1_init 29 = .ok (.aload_n 0, 1) := by decide +kernel
theorem dX1_init_30 : decode cX1_init 30 = .ok (.iconst 0, 1) := by decide +kernel
theorem dX1_init_31 : decode cX1_init 31 = .ok (.putfield 26, 3) := by decide +kernel
theorem dX1_init_34 : decode cX1_init 34 = .ok (.return_, 1) := by decide +kernel
theorem dX1_begin_0 : decode cX1_begin 0 = .ok (.aload_n 0, 1) := by decide +kernel
theorem dX1_begin_1 : decode cX1_begin 1 = .ok (.iconst 0, 1) := by decide +kernel
theorem dX1_begin_2 : decode cX1_begin 2 = .ok (.putfield 7, 3) := by decide +kernel
theorem dX1_begin_5 : decode cX1_begin 5 = .ok (.aload_n 0, 1) := by decide +kernel
theorem dX1_begin_6 : decode cX1_begin 6 = .ok (.iconst 0, 1) := by decide +kernel
theorem dX1_begin_7 : decode cX1_begin 7 = .ok (.putfield 26, 3) := by decide +kernel
theorem dX1_begin_10 : decode cX1_begin 10 = .ok (.aload_n 0, 1) := by decide +kernel
theorem dX1_begin_11 : decode cX1_begin 11 = .ok (.invokevirtual 29, 3) := by decide +kernel
theorem dX1_begin_14 : decode cX1_begin 14 = .ok (.return_, 1) := by decide +kernel
theorem dX1_become_0 : decode cX1_become 0 = .ok (.aload_n 0, 1) := by decide +kernel
theorem dX1_become_1 : decode cX1_become 1 = .ok (.aload_n 1, 1) := by decide +kernel
theorem dX1_become_2 : decode cX1_become 2 = .ok (.getfield 7, 3) := by decide +kernel
theorem dX1_become_5 : decode cX1_become 5 = .ok (.putfield 7, 3) := by decide +kernel
theorem dX1_become_8 : decode cX1_become 8 = .ok (.aload_n 0, 1) := by decide +kernel
theorem dX1_become_9 : decode cX1_become 9 = .ok (.aload_n 1, 1) := by decide +kernel
theorem dX1_become_10 : decode cX1_become 10 = .ok (.getfield 13, 3) := by decide +kernel
theorem dX1_become_13 : decode cX1_become 13 = .ok (.putfield 13, 3) := by decide +kernel
theorem dX1_become_16 : decode cX1_become 16 = .ok (.aload_n 0, 1) := by decide +kernel
theorem dX1_become_17 : decode cX1_become 17 = .ok (.aload_n 1, 1) := by decide +kernel
theorem dX1_become_18 : decode cX1_become 18 = .ok (.getfield 16, 3) := by decide +kernel
theorem dX1_become_21 : decode cX1_become 21 = .ok (.putfield 16, 3) := by decide +kernel
theorem dX1_become_24 : decode cX1_become 24 = .ok (.aload_n 0, 1) := by decide +kernel
theorem dX1_become_25 : decode cX1_become 25 = .ok (.aload_n 1, 1) := by decide +kernel
theorem dX1_become_26 : decode cX1_become 26 = .ok (.getfield 19, 3) := by decide +kernel
theorem dX1_become_29 : decode cX1_become 29 = .ok (.putfield 19, 3) := by decide +kernel
theorem dX1_become_32 : decode cX1_become 32 = .ok (.aload_n 0, 1) := by decide +kernel
theorem dX1_become_33 : decode cX1_become 33 = .ok (.aload_n 1, 1) := by decide +kernel
theorem dX1_become_34 : decode cX1_become 34 = .ok (.getfield 22, 3) := by decide +kernel
theorem dX1_become_37 : decode cX1_become 37 = .ok (.putfield 22, 3) := by decide +kernel
theorem dX1_become_40 : decode cX1_become 40 = .ok (.aload_n 0, 1) := by decide +kernel
theorem dX1_become_41 : decode cX1_become 41 = .ok (.aload_n 1, 1) := by decide +kernel
theorem dX1_become_42 : decode cX1_become 42 = .ok (.getfield 26, 3) := by decide +kernel
theorem dX1_become_45 : decode cX1_become 45 = .ok (.putfield 26, 3) := by decide +kernel
theorem dX1_become_48 : decode cX1_become 48 = .ok (.return_, 1) := by decide +kernel
theorem dX1_carry_0 : decode cX1_carry 0 = .ok (.aload_n 0, 1) := by decide +kernel
theorem dX1_carry_1 : decode cX1_carry 1 = .ok (.dup, 1) := by decide +kernel
theorem dX1_carry_2 : decode cX1_carry 2 = .ok (.getfield 13, 3) := by decide +kernel
theorem dX1_carry_5 : decode cX1_carry 5 = .ok (.iconst 1, 1) := by decide +kernel
theorem dX1_carry_6 : decode cX1_carry 6 = .ok (.iadd, 1) := by decide +kernel
theorem dX1_carry_7 : decode cX1_carry 7 = .ok (.putfield 13, 3) := by decide +kernel
theorem dX1_carry_10 : decode cX1_carry 10 = .ok (.aload_n 0, 1) := by decide +kernel
theorem dX1_carry_11 : decode cX1_carry 11 = .ok (.dup, 1) := by decide +kernel
theorem dX1_carry_12 : decode cX1_carry 12 = .ok (.getfield 16, 3) := by decide +kernel
theorem dX1_carry_15 : decode cX1_carry 15 = .ok (.iload_n 1, 1) := by decide +kernel
theorem dX1_carry_16 : decode cX1_carry 16 = .ok (.iadd, 1) := by decide +kernel
theorem dX1_carry_17 : decode cX1_carry 17 = .ok (.putfield 16, 3) := by decide +kernel
theorem dX1_carry_20 : decode cX1_carry 20 = .ok (.return_, 1) := by decide +kernel
theorem dX1_uncarry_0 : decode cX1_uncarry 0 = .ok (.aload_n 0, 1) := by decide +kernel
theorem dX1_uncarry_1 : decode cX1_uncarry 1 = .ok (.dup, 1) := by decide +kernel
theorem dX1_uncarry_2 : decode cX1_uncarry 2 = .ok (.getfield 13, 3) := by decide +kernel
theorem dX1_uncarry_5 : decode cX1_uncarry 5 = .ok (.iconst 1, 1) := by decide +kernel
theorem dX1_uncarry_6 : decode cX1_uncarry 6 = .ok (.isub, 1) := by decide +kernel
theorem dX1_uncarry_7 : decode cX1_uncarry 7 = .ok (.putfield 13, 3) := by decide +kernel
theorem dX1_uncarry_10 : decode cX1_uncarry 10 = .ok (.aload_n 0, 1) := by decide +kernel
theorem dX1_uncarry_11 : decode cX1_uncarry 11 = .ok (.dup, 1) := by decide +kernel
theorem dX1_uncarry_12 : decode cX1_uncarry 12 = .ok (.getfield 16, 3) := by decide +kernel
theorem dX1_uncarry_15 : decode cX1_uncarry 15 = .ok (.iload_n 1, 1) := by decide +kernel
theorem dX1_uncarry_16 : decode cX1_uncarry 16 = .ok (.isub, 1) := by decide +kernel
theorem dX1_uncarry_17 : decode cX1_uncarry 17 = .ok (.putfield 16, 3) := by decide +kernel
theorem dX1_uncarry_20 : decode cX1_uncarry 20 = .ok (.return_, 1) := by decide +kernel
theorem dX1_pass_0 : decode cX1_pass 0 = .ok (.aload_n 0, 1) := by decide +kernel
theorem dX1_pass_1 : decode cX1_pass 1 = .ok (.dup, 1) := by decide +kernel
theorem dX1_pass_2 : decode cX1_pass 2 = .ok (.getfield 7, 3) := by decide +kernel
theorem dX1_pass_5 : decode cX1_pass 5 = .ok (.iconst 1, 1) := by decide +kernel
theorem dX1_pass_6 : decode cX1_pass 6 = .ok (.iadd, 1) := by decide +kernel
theorem dX1_pass_7 : decode cX1_pass 7 = .ok (.putfield 7, 3) := by decide +kernel
theorem dX1_pass_10 : decode cX1_pass 10 = .ok (.aload_n 0, 1) := by decide +kernel
theorem dX1_pass_11 : decode cX1_pass 11 = .ok (.invokevirtual 29, 3) := by decide +kernel
theorem dX1_pass_14 : decode cX1_pass 14 = .ok (.return_, 1) := by decide +kernel
theorem dX1_dawn_0 : decode cX1_dawn 0 = .ok (.aload_n 0, 1) := by decide +kernel
theorem dX1_dawn_1 : decode cX1_dawn 1 = .ok (.iconst 0, 1) := by decide +kernel
theorem dX1_dawn_2 : decode cX1_dawn 2 = .ok (.putfield 13, 3) := by decide +kernel
theorem dX1_dawn_5 : decode cX1_dawn 5 = .ok (.aload_n 0, 1) := by decide +kernel
theorem dX1_dawn_6 : decode cX1_dawn 6 = .ok (.iconst 0, 1) := by decide +kernel
theorem dX1_dawn_7 : decode cX1_dawn 7 = .ok (.putfield 16, 3) := by decide +kernel
theorem dX1_dawn_10 : decode cX1_dawn 10 = .ok (.aload_n 0, 1) := by decide +kernel
theorem dX1_dawn_11 : decode cX1_dawn 11 = .ok (.iconst 0, 1) := by decide +kernel
theorem dX1_dawn_12 : decode cX1_dawn 12 = .ok (.putfield 19, 3) := by decide +kernel
theorem dX1_dawn_15 : decode cX1_dawn 15 = .ok (.aload_n 0, 1) := by decide +kernel
theorem dX1_dawn_16 : decode cX1_dawn 16 = .ok (.iconst 0, 1) := by decide +kernel
theorem dX1_dawn_17 : decode cX1_dawn 17 = .ok (.putfield 22, 3) := by decide +kernel
theorem dX1_dawn_20 : decode cX1_dawn 20 = .ok (.return_, 1) := by decide +kernel
theorem dX2_init_0 : decode cX2_init 0 = .ok (.aload_n 0, 1) := by decide +kernel
theorem dX2_init_1 : decode cX2_init 1 = .ok (.invokespecial 3, 3) := by decide +kernel
theorem dX2_init_4 : decode cX2_init 4 = .ok (.aload_n 0, 1) := by decide +kernel
theorem dX2_init_5 : decode cX2_init 5 = .ok (.bipush 6, 2) := by decide +kernel
theorem dX2_init_7 : decode cX2_init 7 = .ok (.newarray .int, 2) := by decide +kernel
theorem dX2_init_9 : decode cX2_init 9 = .ok (.putfield 9, 3) := by decide +kernel
theorem dX2_init_12 : decode cX2_init 12 = .ok (.aload_n 0, 1) := by decide +kernel
theorem dX2_init_13 : decode cX2_init 13 = .ok (.bipush 6, 2) := by decide +kernel
theorem dX2_init_15 : decode cX2_init 15 = .ok (.newarray .int, 2) := by decide +kernel
theorem dX2_init_17 : decode cX2_init 17 = .ok (.putfield 15, 3) := by decide +kernel
theorem dX2_init_20 : decode cX2_init 20 = .ok (.aload_n 0, 1) := by decide +kernel
theorem dX2_init_21 : decode cX2_init 21 = .ok (.bipush 6, 2) := by decide +kernel
theorem dX2_init_23 : decode cX2_init 23 = .ok (.newarray .int, 2) := by decide +kernel
theorem dX2_init_25 : decode cX2_init 25 = .ok (.putfield 18, 3) := by decide +kernel
theorem dX2_init_28 : decode cX2_init 28 = .ok (.aload_n 0, 1) := by decide +kernel
theorem dX2_init_29 : decode cX2_init 29 = .ok (.bipush 6, 2) := by decide +kernel
theorem dX2_init_31 : decode cX2_init 31 = .ok (.newarray .int, 2) := by decide +kernel
theorem dX2_init_33 : decode cX2_init 33 = .ok (.putfield 21, 3) := by decide +kernel
theorem dX2_init_36 : decode cX2_init 36 = .ok (.aload_n 0, 1) := by decide +kernel
theorem dX2_init_37 : decode cX2_init 37 = .ok (.bipush 20, 2) := by decide +kernel
theorem dX2_init_39 : decode cX2_init 39 = .ok (.newarray .int, 2) := by decide +kernel
theorem dX2_init_41 : decode cX2_init 41 = .ok (.putfield 24, 3) := by decide +kernel
theorem dX2_init_44 : decode cX2_init 44 = .ok (.aload_n 0, 1) := by decide +kernel
theorem dX2_init_45 : decode cX2_init 45 = .ok (.bipush 20, 2) := by decide +kernel
theorem dX2_init_47 : decode cX2_init 47 = .ok (.newarray .int, 2) := by decide +kernel
theorem dX2_init_49 : decode cX2_init 49 = .ok (.putfield 27, 3) := by decide +kernel
theorem dX2_init_52 : decode cX2_init 52 = .ok (.aload_n 0, 1) := by decide +kernel
theorem dX2_init_53 : decode cX2_init 53 = .ok (.iconst 0, 1) := by decide +kernel
theorem dX2_init_54 : decode cX2_init 54 = .ok (.putfield 30, 3) := by decide +kernel
theorem dX2_init_57 : decode cX2_init 57 = .ok (.aload_n 0, 1) := by decide +kernel
theorem dX2_init_58 : decode cX2_init 58 = .ok (.iconst 0, 1) := by decide +kernel
theorem dX2_init_59 : decode cX2_init 59 = .ok (.putfield 34, 3) := by decide +kernel
theorem dX2_init_62 : decode cX2_init 62 = .ok (.return_, 1) := by decide +kernel
theorem dX2_seek_0 : decode cX2_seek 0 = .ok (.aload_n 0, 1) := by decide +kernel
theorem dX2_seek_1 : decode cX2_seek 1 = .ok (.iconst 0, 1) := by decide +kernel
theorem dX2_seek_2 : decode cX2_seek 2 = .ok (.putfield 30, 3) := by decide +kernel
theorem dX2_seek_5 : decode cX2_seek 5 = .ok (.aload_n 0, 1) := by decide +kernel
theorem dX2_seek_6 : decode cX2_seek 6 = .ok (.iconst 0, 1) := by decide +kernel
theorem dX2_seek_7 : decode cX2_seek 7 = .ok (.putfield 34, 3) := by decide +kernel
theorem dX2_seek_10 : decode cX2_seek 10 = .ok (.iconst 0, 1) := by decide +kernel
theorem dX2_seek_11 : decode cX2_seek 11 = .ok (.istore_n 3, 1) := by decide +kernel
theorem dX2_seek_12 : decode cX2_seek 12 = .ok (.iload_n 3, 1) := by decide +kernel
theorem dX2_seek_13 : decode cX2_seek 13 = .ok (.aload_n 1, 1) := by decide +kernel
theorem dX2_seek_14 : decode cX2_seek 14 = .ok (.getfield 37, 3) := by decide +kernel
theorem dX2_seek_17 : decode cX2_seek 17 = .ok (.if_icmp .ge 61, 3) := by decide +kernel
theorem dX2_seek_20 : decode cX2_seek 20 = .ok (.iload_n 2, 1) := by decide +kernel
theorem dX2_seek_21 : decode cX2_seek 21 = .ok (.iconst 1, 1) := by decide +kernel
theorem dX2_seek_22 : decode cX2_seek 22 = .ok (.iload_n 3, 1) := by decide +kernel
theorem dX2_seek_23 : decode cX2_seek 23 = .ok (.ishl, 1) := by decide +kernel
theorem dX2_seek_24 : decode cX2_seek 24 = .ok (.iand, 1) := by decide +kernel
theorem dX2_seek_25 : decode cX2_seek 25 = .ok (.ifCond .eq 47, 3) := by decide +kernel
theorem dX2_seek_28 : decode cX2_seek 28 = .ok (.aload_n 0, 1) := by decide +kernel
theorem dX2_seek_29 : decode cX2_seek 29 = .ok (.getfield 30, 3) := by decide +kernel
theorem dX2_seek_32 : decode cX2_seek 32 = .ok (.bipush 6, 2) := by decide +kernel
theorem dX2_seek_34 : decode cX2_seek 34 = .ok (.if_icmp .ge 38, 3) := by decide +kernel
theorem dX2_seek_37 : decode cX2_seek 37 = .ok (.aload_n 0, 1) := by decide +kernel
theorem dX2_seek_38 : decode cX2_seek 38 = .ok (.getfield 9, 3) := by decide +kernel
theorem dX2_seek_41 : decode cX2_seek 41 = .ok (.aload_n 0, 1) := by decide +kernel
theorem dX2_seek_42 : decode cX2_seek 42 = .ok (.getfield 30, 3) := by decide +kernel
theorem dX2_seek_45 : decode cX2_seek 45 = .ok (.iload_n 3, 1) := by decide +kernel
theorem dX2_seek_46 : decode cX2_seek 46 = .ok (.iastore, 1) := by decide +kernel
theorem dX2_seek_47 : decode cX2_seek 47 = .ok (.aload_n 0, 1) := by decide +kernel
theorem dX2_seek_48 : decode cX2_seek 48 = .ok (.getfield 21, 3) := by decide +kernel
theorem dX2_seek_51 : decode cX2_seek 51 = .ok (.aload_n 0, 1) := by decide +kernel
theorem dX2_seek_52 : decode cX2_seek 52 = .ok (.getfield 30, 3) := by decide +kernel
theorem dX2_seek_55 : decode cX2_seek 55 = .ok (.aload_n 1, 1) := by decide +kernel
theorem dX2_seek_56 : decode cX2_seek 56 = .ok (.getfield 42, 3) := by decide +kernel
theorem dX2_seek_59 : decode cX2_seek 59 = .ok (.iload_n 3, 1) := by decide +kernel
theorem dX2_seek_60 : decode cX2_seek 60 = .ok (.iaload, 1) := by decide +kernel
theorem dX2_seek_61 : decode cX2_seek 61 = .ok (.iastore, 1) := by decide +kernel
theorem dX2_seek_62 : decode cX2_seek 62 = .ok (.aload_n 0, 1) := by decide +kernel
theorem dX2_seek_63 : decode cX2_seek 63 = .ok (.dup, 1) := by decide +kernel
theorem dX2_seek_64 : decode cX2_seek 64 = .ok (.getfield 30, 3) := by decide +kernel
theorem dX2_seek_67 : decode cX2_seek 67 = .ok (.iconst 1, 1) := by decide +kernel
theorem dX2_seek_68 : decode cX2_seek 68 = .ok (.iadd, 1) := by decide +kernel
theorem dX2_seek_69 : decode cX2_seek 69 = .ok (.putfield 30, 3) := by decide +kernel
theorem dX2_seek_72 : decode cX2_seek 72 = .ok (.iinc 3 1, 3) := by decide +kernel
theorem dX2_seek_75 : decode cX2_seek 75 = .ok (.goto (-63), 3) := by decide +kernel
theorem dX2_seek_78 : decode cX2_seek 78 = .ok (.aload_n 0, 1) := by decide +kernel
theorem dX2_seek_79 : decode cX2_seek 79 = .ok (.aload_n 1, 1) := by decide +kernel
theorem dX2_seek_80 : decode cX2_seek 80 = .ok (.iconst 0, 1) := by decide +kernel
theorem dX2_seek_81 : decode cX2_seek 81 = .ok (.invokevirtual 43, 3) := by decide +kernel
theorem dX2_seek_84 : decode cX2_seek 84 = .ok (.return_, 1) := by decide +kernel
theorem dX2_isAsked_0 : decode cX2_isAsked 0 = .ok (.iload_n 1, 1) := by decide +kernel
theorem dX2_isAsked_1 : decode cX2_isAsked 1 = .ok (.invokestatic 47, 3) := by decide +kernel
theorem dX2_isAsked_4 : decode cX2_isAsked 4 = .ok (.istore_n 2, 1) := by decide +kernel
theorem dX2_isAsked_5 : decode cX2_isAsked 5 = .ok (.iload_n 1, 1) := by decide +kernel
theorem dX2_isAsked_6 : decode cX2_isAsked 6 = .ok (.ifCond .eq 16, 3) := by decide +kernel
theorem dX2_isAsked_9 : decode cX2_isAsked 9 = .ok (.iload_n 2, 1) := by decide +kernel
theorem dX2_isAsked_10 : decode cX2_isAsked 10 = .ok (.iconst (-1), 1) := by decide +kernel
theorem dX2_isAsked_11 : decode cX2_isAsked 11 = .ok (.if_icmp .eq 15, 3) := by decide +kernel
theorem dX2_isAsked_14 : decode cX2_isAsked 14 = .ok (.iload_n 0, 1) := by decide +kernel
theorem dX2_isAsked_15 : decode cX2_isAsked 15 = .ok (.iconst 1, 1) := by decide +kernel
theorem dX2_isAsked_16 : decode cX2_isAsked 16 = .ok (.iload_n 2, 1) := by decide +kernel
theorem dX2_isAsked_17 : decode cX2_isAsked 17 = .ok (.ishl, 1) := by decide +kernel
theorem dX2_isAsked_18 : decode cX2_isAsked 18 = .ok (.iand, 1) := by decide +kernel
theorem dX2_isAsked_19 : decode cX2_isAsked 19 = .ok (.ifCond .eq 7, 3) := by decide +kernel
theorem dX2_isAsked_22 : decode cX2_isAsked 22 = .ok (.iconst 1, 1) := by decide +kernel
theorem dX2_isAsked_23 : decode cX2_isAsked 23 = .ok (.goto 4, 3) := by decide +kernel
theorem dX2_isAsked_26 : decode cX2_isAsked 26 = .ok (.iconst 0, 1) := by decide +kernel
theorem dX2_isAsked_27 : decode cX2_isAsked 27 = .ok (.ireturn, 1) := by decide +kernel
theorem dX2_answer_0 : decode cX2_answer 0 = .ok (.iload_n 1, 1) := by decide +kernel
theorem dX2_answer_1 : decode cX2_answer 1 = .ok (.ifCond .ne 8, 3) := by decide +kernel
theorem dX2_answer_4 : decode cX2_answer 4 = .ok (.aload_n 0, 1) := by decide +kernel
theorem dX2_answer_5 : decode cX2_answer 5 = .ok (.getfield 34, 3) := by decide +kernel
theorem dX2_answer_8 : decode cX2_answer 8 = .ok (.ireturn, 1) := by decide +kernel
theorem dX2_answer_9 : decode cX2_answer 9 = .ok (.iload_n 1, 1) := by decide +kernel
theorem dX2_answer_10 : decode cX2_answer 10 = .ok (.invokestatic 47, 3) := by decide +kernel
theorem dX2_answer_13 : decode cX2_answer 13 = .ok (.istore_n 2, 1) := by decide +kernel
theorem dX2_answer_14 : decode cX2_answer 14 = .ok (.aload_n 0, 1) := by decide +kernel
theorem dX2_answer_15 : decode cX2_answer 15 = .ok (.getfield 34, 3) := by decide +kernel
theorem dX2_answer_18 : decode cX2_answer 18 = .ok (.ifCond .eq 8, 3) := by decide +kernel
theorem dX2_answer_21 : decode cX2_answer 21 = .ok (.iload_n 2, 1) := by decide +kernel
theorem dX2_answer_22 : decode cX2_answer 22 = .ok (.iconst (-1), 1) := by decide +kernel
theorem dX2_answer_23 : decode cX2_answer 23 = .ok (.if_icmp .ne 5, 3) := by decide +kernel
theorem dX2_answer_26 : decode cX2_answer 26 = .ok (.iconst (-1), 1) := by decide +kernel
theorem dX2_answer_27 : decode cX2_answer 27 = .ok (.ireturn, 1) := by decide +kernel
theorem dX2_answer_28 : decode cX2_answer 28 = .ok (.iload_n 1, 1) := by decide +kernel
theorem dX2_answer_29 : decode cX2_answer 29 = .ok (.bipush 30, 2) := by decide +kernel
theorem dX2_answer_31 : decode cX2_answer 31 = .ok (.if_icmp .ge 12, 3) := by decide +kernel
theorem dX2_answer_34 : decode cX2_answer 34 = .ok (.aload_n 0, 1) := by decide +kernel
theorem dX2_answer_35 : decode cX2_answer 35 = .ok (.getfield 24, 3) := by decide +kernel
theorem dX2_answer_38 : decode cX2_answer 38 = .ok (.iload_n 2, 1) := by decide +kernel
theorem dX2_answer_39 : decode cX2_answer 39 = .ok (.iaload, 1) := by decide +kernel
theorem dX2_answer_40 : decode cX2_answer 40 = .ok (.goto 9, 3) := by decide +kernel
theorem dX2_answer_43 : decode cX2_answer 43 = .ok (.aload_n 0, 1) := by decide +kernel
theorem dX2_answer_44 : decode cX2_answer 44 = .ok (.getfield 27, 3) := by decide +kernel
theorem dX2_answer_47 : decode cX2_answer 47 = .ok (.iload_n 2, 1) := by decide +kernel
theorem dX2_answer_48 : decode cX2_answer 48 = .ok (.iaload, 1) := by decide +kernel
theorem dX2_answer_49 : decode cX2_answer 49 = .ok (.ireturn, 1) := by decide +kernel
theorem dX2_blockOf_0 : decode cX2_blockOf 0 = .ok (.iload_n 0, 1) := by decide +kernel
theorem dX2_blockOf_1 : decode cX2_blockOf 1 = .ok (.bipush 10, 2) := by decide +kernel
theorem dX2_blockOf_3 : decode cX2_blockOf 3 = .ok (.if_icmp .lt 9, 3) := by decide +kernel
theorem dX2_blockOf_6 : decode cX2_blockOf 6 = .ok (.iload_n 0, 1) := by decide +kernel
theorem dX2_blockOf_7 : decode cX2_blockOf 7 = .ok (.bipush 50, 2) := by decide +kernel
theorem dX2_blockOf_9 : decode cX2_blockOf 9 = .ok (.if_icmp .lt 5, 3) := by decide +kernel
theorem dX2_blockOf_12 : decode cX2_blockOf 12 = .ok (.iconst (-1), 1) := by decide +kernel
theorem dX2_blockOf_13 : decode cX2_blockOf 13 = .ok (.ireturn, 1) := by decide +kernel
theorem dX2_blockOf_14 : decode cX2_blockOf 14 = .ok (.iload_n 0, 1) := by decide +kernel
theorem dX2_blockOf_15 : decode cX2_blockOf 15 = .ok (.bipush 30, 2) := by decide +kernel
theorem dX2_blockOf_17 : decode cX2_blockOf 17 = .ok (.if_icmp .ge 10, 3) := by decide +kernel
theorem dX2_blockOf_20 : decode cX2_blockOf 20 = .ok (.iload_n 0, 1) := by decide +kernel
theorem dX2_blockOf_21 : decode cX2_blockOf 21 = .ok (.bipush 10, 2) := by decide +kernel
theorem dX2_blockOf_23 : decode cX2_blockOf 23 = .ok (.isub, 1) := by decide +kernel
theorem dX2_blockOf_24 : decode cX2_blockOf 24 = .ok (.goto 7, 3) := by decide +kernel
theorem dX2_blockOf_27 : decode cX2_blockOf 27 = .ok (.iload_n 0, 1) := by decide +kernel
theorem dX2_blockOf_28 : decode cX2_blockOf 28 = .ok (.bipush 30, 2) := by decide +kernel
theorem dX2_blockOf_30 : decode cX2_blockOf 30 = .ok (.isub, 1) := by decide +kernel
theorem dX2_blockOf_31 : decode cX2_blockOf 31 = .ok (.ireturn, 1) := by decide +kernel
theorem dX2_search_0 : decode cX2_search 0 = .ok (.iload_n 2, 1) := by decide +kernel
theorem dX2_search_1 : decode cX2_search 1 = .ok (.aload_n 0, 1) := by decide +kernel
theorem dX2_search_2 : decode cX2_search 2 = .ok (.getfield 30, 3) := by decide +kernel
theorem dX2_search_5 : decode cX2_search 5 = .ok (.if_icmp .ge 9, 3) := by decide +kernel
theorem dX2_search_8 : decode cX2_search 8 = .ok (.iload_n 2, 1) := by decide +kernel
theorem dX2_search_9 : decode cX2_search 9 = .ok (.bipush 6, 2) := by decide +kernel
theorem dX2_search_11 : decode cX2_search 11 = .ok (.if_icmp .lt 9, 3) := by decide +kernel
theorem dX2_search_14 : decode cX2_search 14 = .ok (.aload_n 0, 1) := by decide +kernel
theorem dX2_search_15 : decode cX2_search 15 = .ok (.aload_n 1, 1) := by decide +kernel
theorem dX2_search_16 : decode cX2_search 16 = .ok (.invokevirtual 51, 3) := by decide +kernel
theorem dX2_search_19 : decode cX2_search 19 = .ok (.return_, 1) := by decide +kernel
theorem dX2_search_20 : decode cX2_search 20 = .ok (.iconst 0, 1) := by decide +kernel
theorem dX2_search_21 : decode cX2_search 21 = .ok (.istore_n 3, 1) := by decide +kernel
theorem dX2_search_22 : decode cX2_search 22 = .ok (.iload_n 3, 1) := by decide +kernel
theorem dX2_search_23 : decode cX2_search 23 = .ok (.aload_n 1, 1) := by decide +kernel
theorem dX2_search_24 : decode cX2_search 24 = .ok (.getfield 54, 3) := by decide +kernel
theorem dX2_search_27 : decode cX2_search 27 = .ok (.aload_n 1, 1) := by decide +kernel
theorem dX2_search_28 : decode cX2_search 28 = .ok (.getfield 57, 3) := by decide +kernel
theorem dX2_search_31 : decode cX2_search 31 = .ok (.aload_n 0, 1) := by decide +kernel
theorem dX2_search_32 : decode cX2_search 32 = .ok (.getfield 9, 3) := by decide +kernel
theorem dX2_search_35 : decode cX2_search 35 = .ok (.iload_n 2, 1) := by decide +kernel
theorem dX2_search_36 : decode cX2_search 36 = .ok (.iaload, 1) := by decide +kernel
theorem dX2_search_37 : decode cX2_search 37 = .ok (.iaload, 1) := by decide +kernel
theorem dX2_search_38 : decode cX2_search 38 = .ok (.isub, 1) := by decide +kernel
theorem dX2_search_39 : decode cX2_search 39 = .ok (.if_icmp .gt 79, 3) := by decide +kernel
theorem dX2_search_42 : decode cX2_search 42 = .ok (.aload_n 0, 1) := by decide +kernel
theorem dX2_search_43 : decode cX2_search 43 = .ok (.getfield 21, 3) := by decide +kernel
theorem dX2_search_46 : decode cX2_search 46 = .ok (.iload_n 2, 1) := by decide +kernel
theorem dX2_search_47 : decode cX2_search 47 = .ok (.iaload, 1) := by decide +kernel
theorem dX2_search_48 : decode cX2_search 48 = .ok (.bipush 10, 2) := by decide +kernel
theorem dX2_search_50 : decode cX2_search 50 = .ok (.isub, 1) := by decide +kernel
theorem dX2_search_51 : decode cX2_search 51 = .ok (.iload_n 3, 1) := by decide +kernel
theorem dX2_search_52 : decode cX2_search 52 = .ok (.isub, 1) := by decide +kernel
theorem dX2_search_53 : decode cX2_search 53 = .ok (.istore 4, 2) := by decide +kernel
theorem dX2_search_55 : decode cX2_search 55 = .ok (.iload 4, 2) := by decide +kernel
theorem dX2_search_57 : decode cX2_search 57 = .ok (.ifCond .lt 55, 3) := by decide +kernel
theorem dX2_search_60 : decode cX2_search 60 = .ok (.iload 4, 2) := by decide +kernel
theorem dX2_search_62 : decode cX2_search 62 = .ok (.iconst 2, 1) := by decide +kernel
theorem dX2_search_63 : decode cX2_search 63 = .ok (.irem, 1) := by decide +kernel
theorem dX2_search_64 : decode cX2_search 64 = .ok (.ifCond .ne 48, 3) := by decide +kernel
theorem dX2_search_67 : decode cX2_search 67 = .ok (.iload 4, 2) := by decide +kernel
theorem dX2_search_69 : decode cX2_search 69 = .ok (.iconst 2, 1) := by decide +kernel
theorem dX2_search_70 : decode cX2_search 70 = .ok (.idiv, 1) := by decide +kernel
theorem dX2_search_71 : decode cX2_search 71 = .ok (.aload_n 0, 1) := by decide +kernel
theorem dX2_search_72 : decode cX2_search 72 = .ok (.getfield 30, 3) := by decide +kernel
theorem dX2_search_75 : decode cX2_search 75 = .ok (.if_icmp .ge 37, 3) := by decide +kernel
theorem dX2_search_78 : decode cX2_search 78 = .ok (.aload_n 0, 1) := by decide +kernel
theorem dX2_search_79 : decode cX2_search 79 = .ok (.getfield 15, 3) := by decide +kernel
theorem dX2_search_82 : decode cX2_search 82 = .ok (.iload_n 2, 1) := by decide +kernel
theorem dX2_search_83 : decode cX2_search 83 = .ok (.iload_n 3, 1) := by decide +kernel
theorem dX2_search_84 : decode cX2_search 84 = .ok (.iastore, 1) := by decide +kernel
theorem dX2_search_85 : decode cX2_search 85 = .ok (.aload_n 0, 1) := by decide +kernel
theorem dX2_search_86 : decode cX2_search 86 = .ok (.getfield 18, 3) := by decide +kernel
theorem dX2_search_89 : decode cX2_search 89 = .ok (.iload_n 2, 1) := by decide +kernel
theorem dX2_search_90 : decode cX2_search 90 = .ok (.iload 4, 2) := by decide +kernel
theorem dX2_search_92 : decode cX2_search 92 = .ok (.iconst 2, 1) := by decide +kernel
theorem dX2_search_93 : decode cX2_search 93 = .ok (.idiv, 1) := by decide +kernel
theorem dX2_search_94 : decode cX2_search 94 = .ok (.iastore, 1) := by decide +kernel
theorem dX2_search_95 : decode cX2_search 95 = .ok (.aload_n 0, 1) := by decide +kernel
theorem dX2_search_96 : decode cX2_search 96 = .ok (.aload_n 1, 1) := by decide +kernel
theorem dX2_search_97 : decode cX2_search 97 = .ok (.iload_n 2, 1) := by decide +kernel
theorem dX2_search_98 : decode cX2_search 98 = .ok (.invokevirtual 60, 3) := by decide +kernel
theorem dX2_search_101 : decode cX2_search 101 = .ok (.ifCond .ne 11, 3) := by decide +kernel
theorem dX2_search_104 : decode cX2_search 104 = .ok (.aload_n 0, 1) := by decide +kernel
theorem dX2_search_105 : decode cX2_search 105 = .ok (.aload_n 1, 1) := by decide +kernel
theorem dX2_search_106 : decode cX2_search 106 = .ok (.iload_n 2, 1) := by decide +kernel
theorem dX2_search_107 : decode cX2_search 107 = .ok (.iconst 1, 1) := by decide +kernel
theorem dX2_search_108 : decode cX2_search 108 = .ok (.iadd, 1) := by decide +kernel
theorem dX2_search_109 : decode cX2_search 109 = .ok (.invokevirtual 43, 3) := by decide +kernel
theorem dX2_search_112 : decode cX2_search 112 = .ok (.iinc 3 1, 3) := by decide +kernel
theorem dX2_search_115 : decode cX2_search 115 = .ok (.goto (-93), 3) := by decide +kernel
theorem dX2_search_118 : decode cX2_search 118 = .ok (.return_, 1) := by decide +kernel
theorem dX2_isTaken_0 : decode cX2_isTaken 0 = .ok (.iconst 0, 1) := by decide +kernel
theorem dX2_isTaken_1 : decode cX2_isTaken 1 = .ok (.istore_n 3, 1) := by decide +kernel
theorem dX2_isTaken_2 : decode cX2_isTaken 2 = .ok (.iload_n 3, 1) := by decide +kernel
theorem dX2_isTaken_3 : decode cX2_isTaken 3 = .ok (.iload_n 2, 1) := by decide +kernel
theorem dX2_isTaken_4 : decode cX2_isTaken 4 = .ok (.if_icmp .ge 92, 3) := by decide +kernel
theorem dX2_isTaken_7 : decode cX2_isTaken 7 = .ok (.aload_n 0, 1) := by decide +kernel
theorem dX2_isTaken_8 : decode cX2_isTaken 8 = .ok (.getfield 15, 3) := by decide +kernel
theorem dX2_isTaken_11 : decode cX2_isTaken 11 = .ok (.iload_n 2, 1) := by decide +kernel
theorem dX2_isTaken_12 : decode cX2_isTaken 12 = .ok (.iaload, 1) := by decide +kernel
theorem dX2_isTaken_13 : decode cX2_isTaken 13 = .ok (.aload_n 1, 1) := by decide +kernel
theorem dX2_isTaken_14 : decode cX2_isTaken 14 = .ok (.getfield 57, 3) := by decide +kernel
theorem dX2_isTaken_17 : decode cX2_isTaken 17 = .ok (.aload_n 0, 1) := by decide +kernel
theorem dX2_isTaken_18 : decode cX2_isTaken 18 = .ok (.getfield 9, 3) := by decide +kernel
theorem dX2_isTaken_21 : decode cX2_isTaken 21 = .ok (.iload_n 2, 1) := by decide +kernel
theorem dX2_isTaken_22 : decode cX2_isTaken 22 = .ok (.iaload, 1) := by decide +kernel
theorem dX2_isTaken_23 : decode cX2_isTaken 23 = .ok (.iaload, 1) := by decide +kernel
theorem dX2_isTaken_24 : decode cX2_isTaken 24 = .ok (.iadd, 1) := by decide +kernel
theorem dX2_isTaken_25 : decode cX2_isTaken 25 = .ok (.aload_n 0, 1) := by decide +kernel
theorem dX2_isTaken_26 : decode cX2_isTaken 26 = .ok (.getfield 15, 3) := by decide +kernel
theorem dX2_isTaken_29 : decode cX2_isTaken 29 = .ok (.iload_n 3, 1) := by decide +kernel
theorem dX2_isTaken_30 : decode cX2_isTaken 30 = .ok (.iaload, 1) := by decide +kernel
theorem dX2_isTaken_31 : decode cX2_isTaken 31 = .ok (.if_icmp .le 30, 3) := by decide +kernel
theorem dX2_isTaken_34 : decode cX2_isTaken 34 = .ok (.aload_n 0, 1) := by decide +kernel
theorem dX2_isTaken_35 : decode cX2_isTaken 35 = .ok (.getfield 15, 3) := by decide +kernel
theorem dX2_isTaken_38 : decode cX2_isTaken 38 = .ok (.iload_n 3, 1) := by decide +kernel
theorem dX2_isTaken_39 : decode cX2_isTaken 39 = .ok (.iaload, 1) := by decide +kernel
theorem dX2_isTaken_40 : decode cX2_isTaken 40 = .ok (.aload_n 1, 1) := by decide +kernel
theorem dX2_isTaken_41 : decode cX2_isTaken 41 = .ok (.getfield 57, 3) := by decide +kernel
theorem dX2_isTaken_44 : decode cX2_isTaken 44 = .ok (.aload_n 0, 1) := by decide +kernel
theorem dX2_isTaken_45 : decode cX2_isTaken 45 = .ok (.getfield 9, 3) := by decide +kernel
theorem dX2_isTaken_48 : decode cX2_isTaken 48 = .ok (.iload_n 3, 1) := by decide +kernel
theorem dX2_isTaken_49 : decode cX2_isTaken 49 = .ok (.iaload, 1) := by decide +kernel
theorem dX2_isTaken_50 : decode cX2_isTaken 50 = .ok (.iaload, 1) := by decide +kernel
theorem dX2_isTaken_51 : decode cX2_isTaken 51 = .ok (.iadd, 1) := by decide +kernel
theorem dX2_isTaken_52 : decode cX2_isTaken 52 = .ok (.aload_n 0, 1) := by decide +kernel
theorem dX2_isTaken_53 : decode cX2_isTaken 53 = .ok (.getfield 15, 3) := by decide +kernel
theorem dX2_isTaken_56 : decode cX2_isTaken 56 = .ok (.iload_n 2, 1) := by decide +kernel
theorem dX2_isTaken_57 : decode cX2_isTaken 57 = .ok (.iaload, 1) := by decide +kernel
theorem dX2_isTaken_58 : decode cX2_isTaken 58 = .ok (.if_icmp .gt 7, 3) := by decide +kernel
theorem dX2_isTaken_61 : decode cX2_isTaken 61 = .ok (.iconst 1, 1) := by decide +kernel
theorem dX2_isTaken_62 : decode cX2_isTaken 62 = .ok (.goto 4, 3) := by decide +kernel
theorem dX2_isTaken_65 : decode cX2_isTaken 65 = .ok (.iconst 0, 1) := by decide +kernel
theorem dX2_isTaken_66 : decode cX2_isTaken 66 = .ok (.istore 4, 2) := by decide +kernel
theorem dX2_isTaken_68 : decode cX2_isTaken 68 = .ok (.aload_n 0, 1) := by decide +kernel
theorem dX2_isTaken_69 : decode cX2_isTaken 69 = .ok (.getfield 18, 3) := by decide +kernel
theorem dX2_isTaken_72 : decode cX2_isTaken 72 = .ok (.iload_n 2, 1) := by decide +kernel
theorem dX2_isTaken_73 : decode cX2_isTaken 73 = .ok (.iaload, 1) := by decide +kernel
theorem dX2_isTaken_74 : decode cX2_isTaken 74 = .ok (.aload_n 0, 1) := by decide +kernel
theorem dX2_isTaken_75 : decode cX2_isTaken 75 = .ok (.getfield 18, 3) := by decide +kernel
theorem dX2_isTaken_78 : decode cX2_isTaken 78 = .ok (.iload_n 3, 1) := by decide +kernel
theorem dX2_isTaken_79 : decode cX2_isTaken 79 = .ok (.iaload, 1) := by decide +kernel
theorem dX2_isTaken_80 : decode cX2_isTaken 80 = .ok (.if_icmp .ne 10, 3) := by decide +kernel
theorem dX2_isTaken_83 : decode cX2_isTaken 83 = .ok (.iload 4, 2) := by decide +kernel
theorem dX2_isTaken_85 : decode cX2_isTaken 85 = .ok (.ifCond .ne 5, 3) := by decide +kernel
theorem dX2_isTaken_88 : decode cX2_isTaken 88 = .ok (.iconst 1, 1) := by decide +kernel
theorem dX2_isTaken_89 : decode cX2_isTaken 89 = .ok (.ireturn, 1) := by decide +kernel
theorem dX2_isTaken_90 : decode cX2_isTaken 90 = .ok (.iinc 3 1, 3) := by decide +kernel
theorem dX2_isTaken_93 : decode cX2_isTaken 93 = .ok (.goto (-91), 3) := by decide +kernel
theorem dX2_isTaken_96 : decode cX2_isTaken 96 = .ok (.iconst 0, 1) := by decide +kernel
theorem dX2_isTaken_97 : decode cX2_isTaken 97 = .ok (.ireturn, 1) := by decide +kernel
theorem dX2_count_0 : decode cX2_count 0 = .ok (.aload_n 0, 1) := by decide +kernel
theorem dX2_count_1 : decode cX2_count 1 = .ok (.aload_n 1, 1) := by decide +kernel
theorem dX2_count_2 : decode cX2_count 2 = .ok (.invokevirtual 64, 3) := by decide +kernel
theorem dX2_count_5 : decode cX2_count 5 = .ok (.istore_n 2, 1) := by decide +kernel
theorem dX2_count_6 : decode cX2_count 6 = .ok (.iload_n 2, 1) := by decide +kernel
theorem dX2_count_7 : decode cX2_count 7 = .ok (.ifCond .eq 21, 3) := by decide +kernel
theorem dX2_count_10 : decode cX2_count 10 = .ok (.aload_n 1, 1) := by decide +kernel
theorem dX2_count_11 : decode cX2_count 11 = .ok (.invokevirtual 68, 3) := by decide +kernel
theorem dX2_count_14 : decode cX2_count 14 = .ok (.aload_n 1, 1) := by decide +kernel
theorem dX2_count_15 : decode cX2_count 15 = .ok (.invokevirtual 71, 3) := by decide +kernel
theorem dX2_count_18 : decode cX2_count 18 = .ok (.iconst (-1), 1) := by decide +kernel
theorem dX2_count_19 : decode cX2_count 19 = .ok (.if_icmp .ne 7, 3) := by decide +kernel
theorem dX2_count_22 : decode cX2_count 22 = .ok (.iconst 1, 1) := by decide +kernel
theorem dX2_count_23 : decode cX2_count 23 = .ok (.goto 4, 3) := by decide +kernel
theorem dX2_count_26 : decode cX2_count 26 = .ok (.iconst 0, 1) := by decide +kernel
theorem dX2_count_27 : decode cX2_count 27 = .ok (.istore_n 2, 1) := by decide +kernel
theorem dX2_count_28 : decode cX2_count 28 = .ok (.iconst 0, 1) := by decide +kernel
theorem dX2_count_29 : decode cX2_count 29 = .ok (.istore_n 3, 1) := by decide +kernel
theorem dX2_count_30 : decode cX2_count 30 = .ok (.iload_n 3, 1) := by decide +kernel
theorem dX2_count_31 : decode cX2_count 31 = .ok (.aload_n 0, 1) := by decide +kernel
theorem dX2_count_32 : decode cX2_count 32 = .ok (.getfield 30, 3) := by decide +kernel
theorem dX2_count_35 : decode cX2_count 35 = .ok (.if_icmp .ge 25, 3) := by decide +kernel
theorem dX2_count_38 : decode cX2_count 38 = .ok (.aload_n 1, 1) := by decide +kernel
theorem dX2_count_39 : decode cX2_count 39 = .ok (.aload_n 0, 1) := by decide +kernel
theorem dX2_count_40 : decode cX2_count 40 = .ok (.getfield 9, 3) := by decide +kernel
theorem dX2_count_43 : decode cX2_count 43 = .ok (.iload_n 3, 1) := by decide +kernel
theorem dX2_count_44 : decode cX2_count 44 = .ok (.iaload, 1) := by decide +kernel
theorem dX2_count_45 : decode cX2_count 45 = .ok (.aload_n 0, 1) := by decide +kernel
theorem dX2_count_46 : decode cX2_count 46 = .ok (.getfield 21, 3) := by decide +kernel
theorem dX2_count_49 : decode cX2_count 49 = .ok (.iload_n 3, 1) := by decide +kernel
theorem dX2_count_50 : decode cX2_count 50 = .ok (.iaload, 1) := by decide +kernel
theorem dX2_count_51 : decode cX2_count 51 = .ok (.invokevirtual 75, 3) := by decide +kernel
theorem dX2_count_54 : decode cX2_count 54 = .ok (.iinc 3 1, 3) := by decide +kernel
theorem dX2_count_57 : decode cX2_count 57 = .ok (.goto (-27), 3) := by decide +kernel
theorem dX2_count_60 : decode cX2_count 60 = .ok (.iload_n 2, 1) := by decide +kernel
theorem dX2_count_61 : decode cX2_count 61 = .ok (.ifCond .ne 4, 3) := by decide +kernel
theorem dX2_count_64 : decode cX2_count 64 = .ok (.return_, 1) := by decide +kernel
theorem dX2_count_65 : decode cX2_count 65 = .ok (.aload_n 0, 1) := by decide +kernel
theorem dX2_count_66 : decode cX2_count 66 = .ok (.dup, 1) := by decide +kernel
theorem dX2_count_67 : decode cX2_count 67 = .ok (.getfield 34, 3) := by decide +kernel
theorem dX2_count_70 : decode cX2_count 70 = .ok (.iconst 1, 1) := by decide +kernel
theorem dX2_count_71 : decode cX2_count 71 = .ok (.iadd, 1) := by decide +kernel
theorem dX2_count_72 : decode cX2_count 72 = .ok (.putfield 34, 3) := by decide +kernel
theorem dX2_count_75 : decode cX2_count 75 = .ok (.iconst 0, 1) := by decide +kernel
theorem dX2_count_76 : decode cX2_count 76 = .ok (.istore_n 3, 1) := by decide +kernel
theorem dX2_count_77 : decode cX2_count 77 = .ok (.iload_n 3, 1) := by decide +kernel
theorem dX2_count_78 : decode cX2_count 78 = .ok (.aload_n 0, 1) := by decide +kernel
theorem dX2_count_79 : decode cX2_count 79 = .ok (.getfield 30, 3) := by decide +kernel
theorem dX2_count_82 : decode cX2_count 82 = .ok (.if_icmp .ge 51, 3) := by decide +kernel
theorem dX2_count_85 : decode cX2_count 85 = .ok (.aload_n 0, 1) := by decide +kernel
theorem dX2_count_86 : decode cX2_count 86 = .ok (.getfield 34, 3) := by decide +kernel
theorem dX2_count_89 : decode cX2_count 89 = .ok (.iconst 1, 1) := by decide +kernel
theorem dX2_count_90 : decode cX2_count 90 = .ok (.if_icmp .ne 43, 3) := by decide +kernel
theorem dX2_count_93 : decode cX2_count 93 = .ok (.aload_n 0, 1) := by decide +kernel
theorem dX2_count_94 : decode cX2_count 94 = .ok (.getfield 24, 3) := by decide +kernel
theorem dX2_count_97 : decode cX2_count 97 = .ok (.aload_n 0, 1) := by decide +kernel
theorem dX2_count_98 : decode cX2_count 98 = .ok (.getfield 9, 3) := by decide +kernel
theorem dX2_count_101 : decode cX2_count 101 = .ok (.iload_n 3, 1) := by decide +kernel
theorem dX2_count_102 : decode cX2_count 102 = .ok (.iaload, 1) := by decide +kernel
theorem dX2_count_103 : decode cX2_count 103 = .ok (.aload_n 0, 1) := by decide +kernel
theorem dX2_count_104 : decode cX2_count 104 = .ok (.getfield 15, 3) := by decide +kernel
theorem dX2_count_107 : decode cX2_count 107 = .ok (.iload_n 3, 1) := by decide +kernel
theorem dX2_count_108 : decode cX2_count 108 = .ok (.iaload, 1) := by decide +kernel
theorem dX2_count_109 : decode cX2_count 109 = .ok (.iastore, 1) := by decide +kernel
theorem dX2_count_110 : decode cX2_count 110 = .ok (.aload_n 0, 1) := by decide +kernel
theorem dX2_count_111 : decode cX2_count 111 = .ok (.getfield 27, 3) := by decide +kernel
theorem dX2_count_114 : decode cX2_count 114 = .ok (.aload_n 0, 1) := by decide +kernel
theorem dX2_count_115 : decode cX2_count 115 = .ok (.getfield 9, 3) := by decide +kernel
theorem dX2_count_118 : decode cX2_count 118 = .ok (.iload_n 3, 1) := by decide +kernel
theorem dX2_count_119 : decode cX2_count 119 = .ok (.iaload, 1) := by decide +kernel
theorem dX2_count_120 : decode cX2_count 120 = .ok (.aload_n 0, 1) := by decide +kernel
theorem dX2_count_121 : decode cX2_count 121 = .ok (.getfield 18, 3) := by decide +kernel
theorem dX2_count_124 : decode cX2_count 124 = .ok (.iload_n 3, 1) := by decide +kernel
theorem dX2_count_125 : decode cX2_count 125 = .ok (.iaload, 1) := by decide +kernel
theorem dX2_count_126 : decode cX2_count 126 = .ok (.iastore, 1) := by decide +kernel
theorem dX2_count_127 : decode cX2_count 127 = .ok (.iinc 3 1, 3) := by decide +kernel
theorem dX2_count_130 : decode cX2_count 130 = .ok (.goto (-53), 3) := by decide +kernel
theorem dX2_count_133 : decode cX2_count 133 = .ok (.return_, 1) := by decide +kernel
theorem dX2_build_0 : decode cX2_build 0 = .ok (.iconst 0, 1) := by decide +kernel
theorem dX2_build_1 : decode cX2_build 1 = .ok (.istore_n 2, 1) := by decide +kernel
theorem dX2_build_2 : decode cX2_build 2 = .ok (.iload_n 2, 1) := by decide +kernel
theorem dX2_build_3 : decode cX2_build 3 = .ok (.aload_n 0, 1) := by decide +kernel
theorem dX2_build_4 : decode cX2_build 4 = .ok (.getfield 30, 3) := by decide +kernel
theorem dX2_build_7 : decode cX2_build 7 = .ok (.if_icmp .ge 104, 3) := by decide +kernel
theorem dX2_build_10 : decode cX2_build 10 = .ok (.iconst 0, 1) := by decide +kernel
theorem dX2_build_11 : decode cX2_build 11 = .ok (.istore_n 3, 1) := by decide +kernel
theorem dX2_build_12 : decode cX2_build 12 = .ok (.iload_n 3, 1) := by decide +kernel
theorem dX2_build_13 : decode cX2_build 13 = .ok (.aload_n 0, 1) := by decide +kernel
theorem dX2_build_14 : decode cX2_build 14 = .ok (.getfield 30, 3) := by decide +kernel
theorem dX2_build_17 : decode cX2_build 17 = .ok (.if_icmp .ge 88, 3) := by decide +kernel
theorem dX2_build_20 : decode cX2_build 20 = .ok (.aload_n 0, 1) := by decide +kernel
theorem dX2_build_21 : decode cX2_build 21 = .ok (.getfield 18, 3) := by decide +kernel
theorem dX2_build_24 : decode cX2_build 24 = .ok (.iload_n 3, 1) := by decide +kernel
theorem dX2_build_25 : decode cX2_build 25 = .ok (.iaload, 1) := by decide +kernel
theorem dX2_build_26 : decode cX2_build 26 = .ok (.iload_n 2, 1) := by decide +kernel
theorem dX2_build_27 : decode cX2_build 27 = .ok (.if_icmp .ne 72, 3) := by decide +kernel
theorem dX2_build_30 : decode cX2_build 30 = .ok (.aload_n 1, 1) := by decide +kernel
theorem dX2_build_31 : decode cX2_build 31 = .ok (.aload_n 0, 1) := by decide +kernel
theorem dX2_build_32 : decode cX2_build 32 = .ok (.getfield 9, 3) := by decide +kernel
theorem dX2_build_35 : decode cX2_build 35 = .ok (.iload_n 3, 1) := by decide +kernel
theorem dX2_build_36 : decode cX2_build 36 = .ok (.iaload, 1) := by decide +kernel
theorem dX2_build_37 : decode cX2_build 37 = .ok (.aload_n 0, 1) := by decide +kernel
theorem dX2_build_38 : decode cX2_build 38 = .ok (.getfield 15, 3) := by decide +kernel
theorem dX2_build_41 : decode cX2_build 41 = .ok (.iload_n 3, 1) := by decide +kernel
theorem dX2_build_42 : decode cX2_build 42 = .ok (.iaload, 1) := by decide +kernel
theorem dX2_build_43 : decode cX2_build 43 = .ok (.invokevirtual 79, 3) := by decide +kernel
theorem dX2_build_46 : decode cX2_build 46 = .ok (.iload_n 2, 1) := by decide +kernel
theorem dX2_build_47 : decode cX2_build 47 = .ok (.if_icmp .ne 7, 3) := by decide +kernel
theorem dX2_build_50 : decode cX2_build 50 = .ok (.iconst 1, 1) := by decide +kernel
theorem dX2_build_51 : decode cX2_build 51 = .ok (.goto 4, 3) := by decide +kernel
theorem dX2_build_54 : decode cX2_build 54 = .ok (.iconst 0, 1) := by decide +kernel
theorem dX2_build_55 : decode cX2_build 55 = .ok (.istore 4, 2) := by decide +kernel
theorem dX2_build_57 : decode cX2_build 57 = .ok (.iload 4, 2) := by decide +kernel
theorem dX2_build_59 : decode cX2_build 59 = .ok (.ifCond .eq 22, 3) := by decide +kernel
theorem dX2_build_62 : decode cX2_build 62 = .ok (.aload_n 1, 1) := by decide +kernel
theorem dX2_build_63 : decode cX2_build 63 = .ok (.aload_n 0, 1) := by decide +kernel
theorem dX2_build_64 : decode cX2_build 64 = .ok (.getfield 9, 3) := by decide +kernel
theorem dX2_build_67 : decode cX2_build 67 = .ok (.iload_n 3, 1) := by decide +kernel
theorem dX2_build_68 : decode cX2_build 68 = .ok (.iaload, 1) := by decide +kernel
theorem dX2_build_69 : decode cX2_build 69 = .ok (.aload_n 0, 1) := by decide +kernel
theorem dX2_build_70 : decode cX2_build 70 = .ok (.getfield 15, 3) := by decide +kernel
theorem dX2_build_73 : decode cX2_build 73 = .ok (.iload_n 3, 1) := by decide +kernel
theorem dX2_build_74 : decode cX2_build 74 = .ok (.iaload, 1) := by decide +kernel
theorem dX2_build_75 : decode cX2_build 75 = .ok (.invokevirtual 83, 3) := by decide +kernel
theorem dX2_build_78 : decode cX2_build 78 = .ok (.ifCond .ne 5, 3) := by decide +kernel
theorem dX2_build_81 : decode cX2_build 81 = .ok (.iconst 0, 1) := by decide +kernel
theorem dX2_build_82 : decode cX2_build 82 = .ok (.ireturn, 1) := by decide +kernel
theorem dX2_build_83 : decode cX2_build 83 = .ok (.aload_n 1, 1) := by decide +kernel
theorem dX2_build_84 : decode cX2_build 84 = .ok (.aload_n 0, 1) := by decide +kernel
theorem dX2_build_85 : decode cX2_build 85 = .ok (.getfield 9, 3) := by decide +kernel
theorem dX2_build_88 : decode cX2_build 88 = .ok (.iload_n 3, 1) := by decide +kernel
theorem dX2_build_89 : decode cX2_build 89 = .ok (.iaload, 1) := by decide +kernel
theorem dX2_build_90 : decode cX2_build 90 = .ok (.aload_n 0, 1) := by decide +kernel
theorem dX2_build_91 : decode cX2_build 91 = .ok (.getfield 15, 3) := by decide +kernel
theorem dX2_build_94 : decode cX2_build 94 = .ok (.iload_n 3, 1) := by decide +kernel
theorem dX2_build_95 : decode cX2_build 95 = .ok (.iaload, 1) := by decide +kernel
theorem dX2_build_96 : decode cX2_build 96 = .ok (.invokevirtual 87, 3) := by decide +kernel
theorem dX2_build_99 : decode cX2_build 99 = .ok (.iinc 3 1, 3) := by decide +kernel
theorem dX2_build_102 : decode cX2_build 102 = .ok (.goto (-90), 3) := by decide +kernel
theorem dX2_build_105 : decode cX2_build 105 = .ok (.iinc 2 1, 3) := by decide +kernel
theorem dX2_build_108 : decode cX2_build 108 = .ok (.goto (-106), 3) := by decide +kernel
theorem dX2_build_111 : decode cX2_build 111 = .ok (.iconst 1, 1) := by decide +kernel
theorem dX2_build_112 : decode cX2_build 112 = .ok (.ireturn, 1) := by decide +kernel
theorem dX3_init_0 : decode cX3_init 0 = .ok (.aload_n 0, 1) := by decide +kernel
theorem dX3_init_1 : decode cX3_init 1 = .ok (.invokespecial 3, 3) := by decide +kernel
theorem dX3_init_4 : decode cX3_init 4 = .ok (.aload_n 0, 1) := by decide +kernel
theorem dX3_init_5 : decode cX3_init 5 = .ok (.iconst 5, 1) := by decide +kernel
theorem dX3_init_6 : decode cX3_init 6 = .ok (.newarray .int, 2) := by decide +kernel
theorem dX3_init_8 : decode cX3_init 8 = .ok (.putfield 11, 3) := by decide +kernel
theorem dX3_init_11 : decode cX3_init 11 = .ok (.aload_n 0, 1) := by decide +kernel
theorem dX3_init_12 : decode cX3_init 12 = .ok (.iconst 5, 1) := by decide +kernel
theorem dX3_init_13 : decode cX3_init 13 = .ok (.newarray .int, 2) := by decide +kernel
theorem dX3_init_15 : decode cX3_init 15 = .ok (.putfield 15, 3) := by decide +kernel
theorem dX3_init_18 : decode cX3_init 18 = .ok (.aload_n 0, 1) := by decide +kernel
theorem dX3_init_19 : decode cX3_init 19 = .ok (.iconst 5, 1) := by decide +kernel
theorem dX3_init_20 : decode cX3_init 20 = .ok (.newarray .int, 2) := by decide +kernel
theorem dX3_init_22 : decode cX3_init 22 = .ok (.putfield 18, 3) := by decide +kernel
theorem dX3_init_25 : decode cX3_init 25 = .ok (.aload_n 0, 1) := by decide +kernel
theorem dX3_init_26 : decode cX3_init 26 = .ok (.iconst 5, 1) := by decide +kernel
theorem dX3_init_27 : decode cX3_init 27 = .ok (.newarray .int, 2) := by decide +kernel
theorem dX3_init_29 : decode cX3_init 29 = .ok (.putfield 21, 3) := by decide +kernel
theorem dX3_init_32 : decode cX3_init 32 = .ok (.aload_n 0, 1) := by decide +kernel
theorem dX3_init_33 : decode cX3_init 33 = .ok (.iconst 0, 1) := by decide +kernel
theorem dX3_init_34 : decode cX3_init 34 = .ok (.putfield 24, 3) := by decide +kernel
theorem dX3_init_37 : decode cX3_init 37 = .ok (.aload_n 0, 1) := by decide +kernel
theorem dX3_init_38 : decode cX3_init 38 = .ok (.iconst (-1), 1) := by decide +kernel
theorem dX3_init_39 : decode cX3_init 39 = .ok (.putfield 28, 3) := by decide +kernel
theorem dX3_init_42 : decode cX3_init 42 = .ok (.aload_n 0, 1) := by decide +kernel
theorem dX3_init_43 : decode cX3_init 43 = .ok (.iconst 0, 1) := by decide +kernel
theorem dX3_init_44 : decode cX3_init 44 = .ok (.putfield 31, 3) := by decide +kernel
theorem dX3_init_47 : decode cX3_init 47 = .ok (.return_, 1) := by decide +kernel
theorem dX3_seek_0 : decode cX3_seek 0 = .ok (.aload_n 0, 1) := by decide +kernel
theorem dX3_seek_1 : decode cX3_seek 1 = .ok (.iload_n 2, 1) := by decide +kernel
theorem dX3_seek_2 : decode cX3_seek 2 = .ok (.putfield 24, 3) := by decide +kernel
theorem dX3_seek_5 : decode cX3_seek 5 = .ok (.aload_n 0, 1) := by decide +kernel
theorem dX3_seek_6 : decode cX3_seek 6 = .ok (.iconst 0, 1) := by decide +kernel
theorem dX3_seek_7 : decode cX3_seek 7 = .ok (.putfield 28, 3) := by decide +kernel
theorem dX3_seek_10 : decode cX3_seek 10 = .ok (.aload_n 0, 1) := by decide +kernel
theorem dX3_seek_11 : decode cX3_seek 11 = .ok (.iconst 0, 1) := by decide +kernel
theorem dX3_seek_12 : decode cX3_seek 12 = .ok (.putfield 31, 3) := by decide +kernel
theorem dX3_seek_15 : decode cX3_seek 15 = .ok (.aload_n 0, 1) := by decide +kernel
theorem dX3_seek_16 : decode cX3_seek 16 = .ok (.getfield 24, 3) := by decide +kernel
theorem dX3_seek_19 : decode cX3_seek 19 = .ok (.aload_n 1, 1) := by decide +kernel
theorem dX3_seek_20 : decode cX3_seek 20 = .ok (.invokevirtual 34, 3) := by decide +kernel
theorem dX3_seek_23 : decode cX3_seek 23 = .ok (.isub, 1) := by decide +kernel
theorem dX3_seek_24 : decode cX3_seek 24 = .ok (.istore_n 3, 1) := by decide +kernel
theorem dX3_seek_25 : decode cX3_seek 25 = .ok (.iload_n 3, 1) := by decide +kernel
theorem dX3_seek_26 : decode cX3_seek 26 = .ok (.ifCond .gt 4, 3) := by decide +kernel
theorem dX3_seek_29 : decode cX3_seek 29 = .ok (.return_, 1) := by decide +kernel
theorem dX3_seek_30 : decode cX3_seek 30 = .ok (.aload_n 0, 1) := by decide +kernel
theorem dX3_seek_31 : decode cX3_seek 31 = .ok (.ldc 40, 2) := by decide +kernel
theorem dX3_seek_33 : decode cX3_seek 33 = .ok (.putfield 31, 3) := by decide +kernel
theorem dX3_seek_36 : decode cX3_seek 36 = .ok (.iload_n 3, 1) := by decide +kernel
theorem dX3_seek_37 : decode cX3_seek 37 = .ok (.istore 4, 2) := by decide +kernel
theorem dX3_seek_39 : decode cX3_seek 39 = .ok (.iload 4, 2) := by decide +kernel
theorem dX3_seek_41 : decode cX3_seek 41 = .ok (.iconst 5, 1) := by decide +kernel
theorem dX3_seek_42 : decode cX3_seek 42 = .ok (.if_icmp .gt 32, 3) := by decide +kernel
theorem dX3_seek_45 : decode cX3_seek 45 = .ok (.aload_n 0, 1) := by decide +kernel
theorem dX3_seek_46 : decode cX3_seek 46 = .ok (.iload 4, 2) := by decide +kernel
theorem dX3_seek_48 : decode cX3_seek 48 = .ok (.putfield 28, 3) := by decide +kernel
theorem dX3_seek_51 : decode cX3_seek 51 = .ok (.aload_n 0, 1) := by decide +kernel
theorem dX3_seek_52 : decode cX3_seek 52 = .ok (.aload_n 1, 1) := by decide +kernel
theorem dX3_seek_53 : decode cX3_seek 53 = .ok (.iconst 0, 1) := by decide +kernel
theorem dX3_seek_54 : decode cX3_seek 54 = .ok (.iconst 0, 1) := by decide +kernel
theorem dX3_seek_55 : decode cX3_seek 55 = .ok (.invokevirtual 41, 3) := by decide +kernel
theorem dX3_seek_58 : decode cX3_seek 58 = .ok (.aload_n 0, 1) := by decide +kernel
theorem dX3_seek_59 : decode cX3_seek 59 = .ok (.getfield 31, 3) := by decide +kernel
theorem dX3_seek_62 : decode cX3_seek 62 = .ok (.ldc 40, 2) := by decide +kernel
theorem dX3_seek_64 : decode cX3_seek 64 = .ok (.if_icmp .ge 4, 3) := by decide +kernel
theorem dX3_seek_67 : decode cX3_seek 67 = .ok (.return_, 1) := by decide +kernel
theorem dX3_seek_68 : decode cX3_seek 68 = .ok (.iinc 4 1, 3) := by decide +kernel
theorem dX3_seek_71 : decode cX3_seek 71 = .ok (.goto (-32), 3) := by decide +kernel
theorem dX3_seek_74 : decode cX3_seek 74 = .ok (.aload_n 0, 1) := by decide +kernel
theorem dX3_seek_75 : decode cX3_seek 75 = .ok (.iconst (-1), 1) := by decide +kernel
theorem dX3_seek_76 : decode cX3_seek 76 = .ok (.putfield 28, 3) := by decide +kernel
theorem dX3_seek_79 : decode cX3_seek 79 = .ok (.return_, 1) := by decide +kernel
theorem dX3_isAsked_0 : decode cX3_isAsked 0 = .ok (.iload_n 0, 1) := by decide +kernel
theorem dX3_isAsked_1 : decode cX3_isAsked 1 = .ok (.ifCond .eq 32, 3) := by decide +kernel
theorem dX3_isAsked_4 : decode cX3_isAsked 4 = .ok (.iload_n 0, 1) := by decide +kernel
theorem dX3_isAsked_5 : decode cX3_isAsked 5 = .ok (.iconst 1, 1) := by decide +kernel
theorem dX3_isAsked_6 : decode cX3_isAsked 6 = .ok (.if_icmp .eq 27, 3) := by decide +kernel
theorem dX3_isAsked_9 : decode cX3_isAsked 9 = .ok (.iload_n 0, 1) := by decide +kernel
theorem dX3_isAsked_10 : decode cX3_isAsked 10 = .ok (.bipush 10, 2) := by decide +kernel
theorem dX3_isAsked_12 : decode cX3_isAsked 12 = .ok (.if_icmp .lt 9, 3) := by decide +kernel
theorem dX3_isAsked_15 : decode cX3_isAsked 15 = .ok (.iload_n 0, 1) := by decide +kernel
theorem dX3_isAsked_16 : decode cX3_isAsked 16 = .ok (.bipush 15, 2) := by decide +kernel
theorem dX3_isAsked_18 : decode cX3_isAsked 18 = .ok (.if_icmp .lt 15, 3) := by decide +kernel
theorem dX3_isAsked_21 : decode cX3_isAsked 21 = .ok (.iload_n 0, 1) := by decide +kernel
theorem dX3_isAsked_22 : decode cX3_isAsked 22 = .ok (.bipush 20, 2) := by decide +kernel
theorem dX3_isAsked_24 : decode cX3_isAsked 24 = .ok (.if_icmp .lt 13, 3) := by decide +kernel
theorem dX3_isAsked_27 : decode cX3_isAsked 27 = .ok (.iload_n 0, 1) := by decide +kernel
theorem dX3_isAsked_28 : decode cX3_isAsked 28 = .ok (.bipush 25, 2) := by decide +kernel
theorem dX3_isAsked_30 : decode cX3_isAsked 30 = .ok (.if_icmp .ge 7, 3) := by decide +kernel
theorem dX3_isAsked_33 : decode cX3_isAsked 33 = .ok (.iconst 1, 1) := by decide +kernel
theorem dX3_isAsked_34 : decode cX3_isAsked 34 = .ok (.goto 4, 3) := by decide +kernel
theorem dX3_isAsked_37 : decode cX3_isAsked 37 = .ok (.iconst 0, 1) := by decide +kernel
theorem dX3_isAsked_38 : decode cX3_isAsked 38 = .ok (.ireturn, 1) := by decide +kernel
theorem dX3_answer_0 : decode cX3_answer 0 = .ok (.iload_n 1, 1) := by decide +kernel
theorem dX3_answer_1 : decode cX3_answer 1 = .ok (.ifCond .eq 11, 3) := by decide +kernel
theorem dX3_answer_4 : decode cX3_answer 4 = .ok (.aload_n 0, 1) := by decide +kernel
theorem dX3_answer_5 : decode cX3_answer 5 = .ok (.getfield 28, 3) := by decide +kernel
theorem dX3_answer_8 : decode cX3_answer 8 = .ok (.iconst (-1), 1) := by decide +kernel
theorem dX3_answer_9 : decode cX3_answer 9 = .ok (.if_icmp .ne 8, 3) := by decide +kernel
theorem dX3_answer_12 : decode cX3_answer 12 = .ok (.aload_n 0, 1) := by decide +kernel
theorem dX3_answer_13 : decode cX3_answer 13 = .ok (.getfield 28, 3) := by decide +kernel
theorem dX3_answer_16 : decode cX3_answer 16 = .ok (.ireturn, 1) := by decide +kernel
theorem dX3_answer_17 : decode cX3_answer 17 = .ok (.iload_n 1, 1) := by decide +kernel
theorem dX3_answer_18 : decode cX3_answer 18 = .ok (.iconst 1, 1) := by decide +kernel
theorem dX3_answer_19 : decode cX3_answer 19 = .ok (.if_icmp .ne 8, 3) := by decide +kernel
theorem dX3_answer_22 : decode cX3_answer 22 = .ok (.aload_n 0, 1) := by decide +kernel
theorem dX3_answer_23 : decode cX3_answer 23 = .ok (.getfield 31, 3) := by decide +kernel
theorem dX3_answer_26 : decode cX3_answer 26 = .ok (.ireturn, 1) := by decide +kernel
theorem dX3_answer_27 : decode cX3_answer 27 = .ok (.iload_n 1, 1) := by decide +kernel
theorem dX3_answer_28 : decode cX3_answer 28 = .ok (.bipush 20, 2) := by decide +kernel
theorem dX3_answer_30 : decode cX3_answer 30 = .ok (.if_icmp .ge 10, 3) := by decide +kernel
theorem dX3_answer_33 : decode cX3_answer 33 = .ok (.iload_n 1, 1) := by decide +kernel
theorem dX3_answer_34 : decode cX3_answer 34 = .ok (.bipush 10, 2) := by decide +kernel
theorem dX3_answer_36 : decode cX3_answer 36 = .ok (.isub, 1) := by decide +kernel
theorem dX3_answer_37 : decode cX3_answer 37 = .ok (.goto 7, 3) := by decide +kernel
theorem dX3_answer_40 : decode cX3_answer 40 = .ok (.iload_n 1, 1) := by decide +kernel
theorem dX3_answer_41 : decode cX3_answer 41 = .ok (.bipush 20, 2) := by decide +kernel
theorem dX3_answer_43 : decode cX3_answer 43 = .ok (.isub, 1) := by decide +kernel
theorem dX3_answer_44 : decode cX3_answer 44 = .ok (.istore_n 2, 1) := by decide +kernel
theorem dX3_answer_45 : decode cX3_answer 45 = .ok (.iload_n 2, 1) := by decide +kernel
theorem dX3_answer_46 : decode cX3_answer 46 = .ok (.ifCond .lt 16, 3) := by decide +kernel
theorem dX3_answer_49 : decode cX3_answer 49 = .ok (.iload_n 2, 1) := by decide +kernel
theorem dX3_answer_50 : decode cX3_answer 50 = .ok (.aload_n 0, 1) := by decide +kernel
theorem dX3_answer_51 : decode cX3_answer 51 = .ok (.getfield 28, 3) := by decide +kernel
theorem dX3_answer_54 : decode cX3_answer 54 = .ok (.if_icmp .ge 8, 3) := by decide +kernel
theorem dX3_answer_57 : decode cX3_answer 57 = .ok (.iload_n 2, 1) := by decide +kernel
theorem dX3_answer_58 : decode cX3_answer 58 = .ok (.iconst 5, 1) := by decide +kernel
theorem dX3_answer_59 : decode cX3_answer 59 = .ok (.if_icmp .lt 5, 3) := by decide +kernel
theorem dX3_answer_62 : decode cX3_answer 62 = .ok (.iconst (-1), 1) := by decide +kernel
theorem dX3_answer_63 : decode cX3_answer 63 = .ok (.ireturn, 1) := by decide +kernel
theorem dX3_answer_64 : decode cX3_answer 64 = .ok (.iload_n 1, 1) := by decide +kernel
theorem dX3_answer_65 : decode cX3_answer 65 = .ok (.bipush 20, 2) := by decide +kernel
theorem dX3_answer_67 : decode cX3_answer 67 = .ok (.if_icmp .ge 12, 3) := by decide +kernel
theorem dX3_answer_70 : decode cX3_answer 70 = .ok (.aload_n 0, 1) := by decide +kernel
theorem dX3_answer_71 : decode cX3_answer 71 = .ok (.getfield 18, 3) := by decide +kernel
theorem dX3_answer_74 : decode cX3_answer 74 = .ok (.iload_n 2, 1) := by decide +kernel
theorem dX3_answer_75 : decode cX3_answer 75 = .ok (.iaload, 1) := by decide +kernel
theorem dX3_answer_76 : decode cX3_answer 76 = .ok (.goto 9, 3) := by decide +kernel
theorem dX3_answer_79 : decode cX3_answer 79 = .ok (.aload_n 0, 1) := by decide +kernel
theorem dX3_answer_80 : decode cX3_answer 80 = .ok (.getfield 21, 3) := by decide +kernel
theorem dX3_answer_83 : decode cX3_answer 83 = .ok (.iload_n 2, 1) := by decide +kernel
theorem dX3_answer_84 : decode cX3_answer 84 = .ok (.iaload, 1) := by decide +kernel
theorem dX3_answer_85 : decode cX3_answer 85 = .ok (.ireturn, 1) := by decide +kernel
