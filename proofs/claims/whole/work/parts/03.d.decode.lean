theorem dX7_scan_0 : decode cX7_scan 0 = .ok (.aload_n 0, 1) := by decide +kernel
theorem dX7_scan_1 : decode cX7_scan 1 = .ok (.iconst 0, 1) := by decide +kernel
theorem dX7_scan_2 : decode cX7_scan 2 = .ok (.putfield 18, 3) := by decide +kernel
theorem dX7_scan_5 : decode cX7_scan 5 = .ok (.iconst 0, 1) := by decide +kernel
theorem dX7_scan_6 : decode cX7_scan 6 = .ok (.istore_n 3, 1) := by decide +kernel
theorem dX7_scan_7 : decode cX7_scan 7 = .ok (.iconst 0, 1) := by decide +kernel
theorem dX7_scan_8 : decode cX7_scan 8 = .ok (.istore 4, 2) := by decide +kernel
theorem dX7_scan_10 : decode cX7_scan 10 = .ok (.iload 4, 2) := by decide +kernel
theorem dX7_scan_12 : decode cX7_scan 12 = .ok (.iload_n 2, 1) := by decide +kernel
theorem dX7_scan_13 : decode cX7_scan 13 = .ok (.if_icmp .ge 91, 3) := by decide +kernel
theorem dX7_scan_16 : decode cX7_scan 16 = .ok (.aload_n 0, 1) := by decide +kernel
theorem dX7_scan_17 : decode cX7_scan 17 = .ok (.getfield 18, 3) := by decide +kernel
theorem dX7_scan_20 : decode cX7_scan 20 = .ok (.sipush 400, 3) := by decide +kernel
theorem dX7_scan_23 : decode cX7_scan 23 = .ok (.if_icmp .ge 81, 3) := by decide +kernel
theorem dX7_scan_26 : decode cX7_scan 26 = .ok (.iload 4, 2) := by decide +kernel
theorem dX7_scan_28 : decode cX7_scan 28 = .ok (.iload_n 3, 1) := by decide +kernel
theorem dX7_scan_29 : decode cX7_scan 29 = .ok (.if_icmp .lt 69, 3) := by decide +kernel
theorem dX7_scan_32 : decode cX7_scan 32 = .ok (.aload_n 1, 1) := by decide +kernel
theorem dX7_scan_33 : decode cX7_scan 33 = .ok (.iload 4, 2) := by decide +kernel
theorem dX7_scan_35 : decode cX7_scan 35 = .ok (.baload, 1) := by decide +kernel
theorem dX7_scan_36 : decode cX7_scan 36 = .ok (.bipush 32, 2) := by decide +kernel
theorem dX7_scan_38 : decode cX7_scan 38 = .ok (.if_icmp .eq 60, 3) := by decide +kernel
theorem dX7_scan_41 : decode cX7_scan 41 = .ok (.aload_n 1, 1) := by decide +kernel
theorem dX7_scan_42 : decode cX7_scan 42 = .ok (.iload 4, 2) := by decide +kernel
theorem dX7_scan_44 : decode cX7_scan 44 = .ok (.baload, 1) := by decide +kernel
theorem dX7_scan_45 : decode cX7_scan 45 = .ok (.bipush 10, 2) := by decide +kernel
theorem dX7_scan_47 : decode cX7_scan 47 = .ok (.if_icmp .ne 6, 3) := by decide +kernel
theorem dX7_scan_50 : decode cX7_scan 50 = .ok (.goto 48, 3) := by decide +kernel
theorem dX7_scan_53 : decode cX7_scan 53 = .ok (.aload_n 1, 1) := by decide +kernel
theorem dX7_scan_54 : decode cX7_scan 54 = .ok (.iload 4, 2) := by decide +kernel
theorem dX7_scan_56 : decode cX7_scan 56 = .ok (.iload_n 2, 1) := by decide +kernel
theorem dX7_scan_57 : decode cX7_scan 57 = .ok (.invokestatic 43, 3) := by decide +kernel
theorem dX7_scan_60 : decode cX7_scan 60 = .ok (.istore_n 3, 1) := by decide +kernel
theorem dX7_scan_61 : decode cX7_scan 61 = .ok (.aload_n 0, 1) := by decide +kernel
theorem dX7_scan_62 : decode cX7_scan 62 = .ok (.getfield 11, 3) := by decide +kernel
theorem dX7_scan_65 : decode cX7_scan 65 = .ok (.aload_n 0, 1) := by decide +kernel
theorem dX7_scan_66 : decode cX7_scan 66 = .ok (.getfield 18, 3) := by decide +kernel
theorem dX7_scan_69 : decode cX7_scan 69 = .ok (.aload_n 1, 1) := by decide +kernel
theorem dX7_scan_70 : decode cX7_scan 70 = .ok (.iload 4, 2) := by decide +kernel
theorem dX7_scan_72 : decode cX7_scan 72 = .ok (.iload_n 3, 1) := by decide +kernel
theorem dX7_scan_73 : decode cX7_scan 73 = .ok (.invokestatic 47, 3) := by decide +kernel
theorem dX7_scan_76 : decode cX7_scan 76 = .ok (.iastore, 1) := by decide +kernel
theorem dX7_scan_77 : decode cX7_scan 77 = .ok (.aload_n 0, 1) := by decide +kernel
theorem dX7_scan_78 : decode cX7_scan 78 = .ok (.getfield 15, 3) := by decide +kernel
theorem dX7_scan_81 : decode cX7_scan 81 = .ok (.aload_n 0, 1) := by decide +kernel
theorem dX7_scan_82 : decode cX7_scan 82 = .ok (.getfield 18, 3) := by decide +kernel
theorem dX7_scan_85 : decode cX7_scan 85 = .ok (.iload 4, 2) := by decide +kernel
theorem dX7_scan_87 : decode cX7_scan 87 = .ok (.iastore, 1) := by decide +kernel
theorem dX7_scan_88 : decode cX7_scan 88 = .ok (.aload_n 0, 1) := by decide +kernel
theorem dX7_scan_89 : decode cX7_scan 89 = .ok (.dup, 1) := by decide +kernel
theorem dX7_scan_90 : decode cX7_scan 90 = .ok (.getfield 18, 3) := by decide +kernel
theorem dX7_scan_93 : decode cX7_scan 93 = .ok (.iconst 1, 1) := by decide +kernel
theorem dX7_scan_94 : decode cX7_scan 94 = .ok (.iadd, 1) := by decide +kernel
theorem dX7_scan_95 : decode cX7_scan 95 = .ok (.putfield 18, 3) := by decide +kernel
theorem dX7_scan_98 : decode cX7_scan 98 = .ok (.iinc 4 1, 3) := by decide +kernel
theorem dX7_scan_101 : decode cX7_scan 101 = .ok (.goto (-91), 3) := by decide +kernel
theorem dX7_scan_104 : decode cX7_scan 104 = .ok (.aload_n 0, 1) := by decide +kernel
theorem dX7_scan_105 : decode cX7_scan 105 = .ok (.getfield 15, 3) := by decide +kernel
theorem dX7_scan_108 : decode cX7_scan 108 = .ok (.aload_n 0, 1) := by decide +kernel
theorem dX7_scan_109 : decode cX7_scan 109 = .ok (.getfield 18, 3) := by decide +kernel
theorem dX7_scan_112 : decode cX7_scan 112 = .ok (.iload_n 2, 1) := by decide +kernel
theorem dX7_scan_113 : decode cX7_scan 113 = .ok (.iastore, 1) := by decide +kernel
theorem dX7_scan_114 : decode cX7_scan 114 = .ok (.return_, 1) := by decide +kernel
theorem dX7_tell_0 : decode cX7_tell 0 = .ok (.iload_n 1, 1) := by decide +kernel
theorem dX7_tell_1 : decode cX7_tell 1 = .ok (.sipush 20005, 3) := by decide +kernel
theorem dX7_tell_4 : decode cX7_tell 4 = .ok (.if_icmp .lt 21, 3) := by decide +kernel
theorem dX7_tell_7 : decode cX7_tell 7 = .ok (.iload_n 1, 1) := by decide +kernel
theorem dX7_tell_8 : decode cX7_tell 8 = .ok (.sipush 20012, 3) := by decide +kernel
theorem dX7_tell_11 : decode cX7_tell 11 = .ok (.if_icmp .ge 14, 3) := by decide +kernel
theorem dX7_tell_14 : decode cX7_tell 14 = .ok (.aload_n 0, 1) := by decide +kernel
theorem dX7_tell_15 : decode cX7_tell 15 = .ok (.getfield 25, 3) := by decide +kernel
theorem dX7_tell_18 : decode cX7_tell 18 = .ok (.iload_n 1, 1) := by decide +kernel
theorem dX7_tell_19 : decode cX7_tell 19 = .ok (.sipush 20005, 3) := by decide +kernel
theorem dX7_tell_22 : decode cX7_tell 22 = .ok (.isub, 1) := by decide +kernel
theorem dX7_tell_23 : decode cX7_tell 23 = .ok (.iload_n 2, 1) := by decide +kernel
theorem dX7_tell_24 : decode cX7_tell 24 = .ok (.iastore, 1) := by decide +kernel
theorem dX7_tell_25 : decode cX7_tell 25 = .ok (.return_, 1) := by decide +kernel
theorem dX7_read_0 : decode cX7_read 0 = .ok (.aload_n 0, 1) := by decide +kernel
theorem dX7_read_1 : decode cX7_read 1 = .ok (.iconst 0, 1) := by decide +kernel
theorem dX7_read_2 : decode cX7_read 2 = .ok (.putfield 22, 3) := by decide +kernel
theorem dX7_read_5 : decode cX7_read 5 = .ok (.aload_n 0, 1) := by decide +kernel
theorem dX7_read_6 : decode cX7_read 6 = .ok (.iconst 0, 1) := by decide +kernel
theorem dX7_read_7 : decode cX7_read 7 = .ok (.putfield 28, 3) := by decide +kernel
theorem dX7_read_10 : decode cX7_read 10 = .ok (.aload_n 0, 1) := by decide +kernel
theorem dX7_read_11 : decode cX7_read 11 = .ok (.iconst 0, 1) := by decide +kernel
theorem dX7_read_12 : decode cX7_read 12 = .ok (.putfield 31, 3) := by decide +kernel
theorem dX7_read_15 : decode cX7_read 15 = .ok (.aload_n 0, 1) := by decide +kernel
theorem dX7_read_16 : decode cX7_read 16 = .ok (.iconst (-1), 1) := by decide +kernel
theorem dX7_read_17 : decode cX7_read 17 = .ok (.putfield 34, 3) := by decide +kernel
theorem dX7_read_20 : decode cX7_read 20 = .ok (.iconst (-1), 1) := by decide +kernel
theorem dX7_read_21 : decode cX7_read 21 = .ok (.istore_n 2, 1) := by decide +kernel
theorem dX7_read_22 : decode cX7_read 22 = .ok (.iconst 0, 1) := by decide +kernel
theorem dX7_read_23 : decode cX7_read 23 = .ok (.istore_n 3, 1) := by decide +kernel
theorem dX7_read_24 : decode cX7_read 24 = .ok (.iload_n 3, 1) := by decide +kernel
theorem dX7_read_25 : decode cX7_read 25 = .ok (.sipush 400, 3) := by decide +kernel
theorem dX7_read_28 : decode cX7_read 28 = .ok (.if_icmp .gt 121, 3) := by decide +kernel
theorem dX7_read_31 : decode cX7_read 31 = .ok (.aload_n 0, 1) := by decide +kernel
theorem dX7_read_32 : decode cX7_read 32 = .ok (.invokevirtual 50, 3) := by decide +kernel
theorem dX7_read_35 : decode cX7_read 35 = .ok (.sipush 30000, 3) := by decide +kernel
theorem dX7_read_38 : decode cX7_read 38 = .ok (.if_icmp .eq 111, 3) := by decide +kernel
theorem dX7_read_41 : decode cX7_read 41 = .ok (.aload_n 0, 1) := by decide +kernel
theorem dX7_read_42 : decode cX7_read 42 = .ok (.invokevirtual 50, 3) := by decide +kernel
theorem dX7_read_45 : decode cX7_read 45 = .ok (.istore 4, 2) := by decide +kernel
theorem dX7_read_47 : decode cX7_read 47 = .ok (.iload 4, 2) := by decide +kernel
theorem dX7_read_49 : decode cX7_read 49 = .ok (.sipush 20000, 3) := by decide +kernel
theorem dX7_read_52 : decode cX7_read 52 = .ok (.if_icmp .eq 19, 3) := by decide +kernel
theorem dX7_read_55 : decode cX7_read 55 = .ok (.iload 4, 2) := by decide +kernel
theorem dX7_read_57 : decode cX7_read 57 = .ok (.sipush 20001, 3) := by decide +kernel
theorem dX7_read_60 : decode cX7_read 60 = .ok (.if_icmp .eq 11, 3) := by decide +kernel
theorem dX7_read_63 : decode cX7_read 63 = .ok (.aload_n 0, 1) := by decide +kernel
theorem dX7_read_64 : decode cX7_read 64 = .ok (.iconst 1, 1) := by decide +kernel
theorem dX7_read_65 : decode cX7_read 65 = .ok (.invokevirtual 54, 3) := by decide +kernel
theorem dX7_read_68 : decode cX7_read 68 = .ok (.goto 75, 3) := by decide +kernel
theorem dX7_read_71 : decode cX7_read 71 = .ok (.aload_n 0, 1) := by decide +kernel
theorem dX7_read_72 : decode cX7_read 72 = .ok (.getfield 28, 3) := by decide +kernel
theorem dX7_read_75 : decode cX7_read 75 = .ok (.bipush 16, 2) := by decide +kernel
theorem dX7_read_77 : decode cX7_read 77 = .ok (.if_icmp .lt 11, 3) := by decide +kernel
theorem dX7_read_80 : decode cX7_read 80 = .ok (.aload_n 0, 1) := by decide +kernel
theorem dX7_read_81 : decode cX7_read 81 = .ok (.iconst 3, 1) := by decide +kernel
theorem dX7_read_82 : decode cX7_read 82 = .ok (.invokevirtual 54, 3) := by decide +kernel
theorem dX7_read_85 : decode cX7_read 85 = .ok (.goto 58, 3) := by decide +kernel
theorem dX7_read_88 : decode cX7_read 88 = .ok (.aload_n 0, 1) := by decide +kernel
theorem dX7_read_89 : decode cX7_read 89 = .ok (.dup, 1) := by decide +kernel
theorem dX7_read_90 : decode cX7_read 90 = .ok (.getfield 22, 3) := by decide +kernel
theorem dX7_read_93 : decode cX7_read 93 = .ok (.iconst 1, 1) := by decide +kernel
theorem dX7_read_94 : decode cX7_read 94 = .ok (.iadd, 1) := by decide +kernel
theorem dX7_read_95 : decode cX7_read 95 = .ok (.putfield 22, 3) := by decide +kernel
theorem dX7_read_98 : decode cX7_read 98 = .ok (.aload_n 0, 1) := by decide +kernel
theorem dX7_read_99 : decode cX7_read 99 = .ok (.iconst 0, 1) := by decide +kernel
theorem dX7_read_100 : decode cX7_read 100 = .ok (.invokevirtual 58, 3) := by decide +kernel
theorem dX7_read_103 : decode cX7_read 103 = .ok (.istore 5, 2) := by decide +kernel
theorem dX7_read_105 : decode cX7_read 105 = .ok (.aload_n 0, 1) := by decide +kernel
theorem dX7_read_106 : decode cX7_read 106 = .ok (.sipush 10059, 3) := by decide +kernel
theorem dX7_read_109 : decode cX7_read 109 = .ok (.invokevirtual 62, 3) := by decide +kernel
theorem dX7_read_112 : decode cX7_read 112 = .ok (.iload 5, 2) := by decide +kernel
theorem dX7_read_114 : decode cX7_read 114 = .ok (.ifCond .ne 19, 3) := by decide +kernel
theorem dX7_read_117 : decode cX7_read 117 = .ok (.iload 4, 2) := by decide +kernel
theorem dX7_read_119 : decode cX7_read 119 = .ok (.iload_n 1, 1) := by decide +kernel
theorem dX7_read_120 : decode cX7_read 120 = .ok (.if_icmp .ne 13, 3) := by decide +kernel
theorem dX7_read_123 : decode cX7_read 123 = .ok (.iload_n 2, 1) := by decide +kernel
theorem dX7_read_124 : decode cX7_read 124 = .ok (.iconst (-1), 1) := by decide +kernel
theorem dX7_read_125 : decode cX7_read 125 = .ok (.if_icmp .ne 8, 3) := by decide +kernel
theorem dX7_read_128 : decode cX7_read 128 = .ok (.aload_n 0, 1) := by decide +kernel
theorem dX7_read_129 : decode cX7_read 129 = .ok (.getfield 28, 3) := by decide +kernel
theorem dX7_read_132 : decode cX7_read 132 = .ok (.istore_n 2, 1) := by decide +kernel
theorem dX7_read_133 : decode cX7_read 133 = .ok (.aload_n 0, 1) := by decide +kernel
theorem dX7_read_134 : decode cX7_read 134 = .ok (.dup, 1) := by decide +kernel
theorem dX7_read_135 : decode cX7_read 135 = .ok (.getfield 28, 3) := by decide +kernel
theorem dX7_read_138 : decode cX7_read 138 = .ok (.iconst 1, 1) := by decide +kernel
theorem dX7_read_139 : decode cX7_read 139 = .ok (.iadd, 1) := by decide +kernel
theorem dX7_read_140 : decode cX7_read 140 = .ok (.putfield 28, 3) := by decide +kernel
theorem dX7_read_143 : decode cX7_read 143 = .ok (.iinc 3 1, 3) := by decide +kernel
theorem dX7_read_146 : decode cX7_read 146 = .ok (.goto (-122), 3) := by decide +kernel
theorem dX7_read_149 : decode cX7_read 149 = .ok (.iload_n 2, 1) := by decide +kernel
theorem dX7_read_150 : decode cX7_read 150 = .ok (.ireturn, 1) := by decide +kernel
theorem dX7_tokenEnd_0 : decode cX7_tokenEnd 0 = .ok (.aload_n 0, 1) := by decide +kernel
theorem dX7_tokenEnd_1 : decode cX7_tokenEnd 1 = .ok (.iload_n 1, 1) := by decide +kernel
theorem dX7_tokenEnd_2 : decode cX7_tokenEnd 2 = .ok (.baload, 1) := by decide +kernel
theorem dX7_tokenEnd_3 : decode cX7_tokenEnd 3 = .ok (.invokestatic 65, 3) := by decide +kernel
theorem dX7_tokenEnd_6 : decode cX7_tokenEnd 6 = .ok (.istore_n 3, 1) := by decide +kernel
theorem dX7_tokenEnd_7 : decode cX7_tokenEnd 7 = .ok (.aload_n 0, 1) := by decide +kernel
theorem dX7_tokenEnd_8 : decode cX7_tokenEnd 8 = .ok (.iload_n 1, 1) := by decide +kernel
theorem dX7_tokenEnd_9 : decode cX7_tokenEnd 9 = .ok (.baload, 1) := by decide +kernel
theorem dX7_tokenEnd_10 : decode cX7_tokenEnd 10 = .ok (.invokestatic 69, 3) := by decide +kernel
theorem dX7_tokenEnd_13 : decode cX7_tokenEnd 13 = .ok (.istore 4, 2) := by decide +kernel
theorem dX7_tokenEnd_15 : decode cX7_tokenEnd 15 = .ok (.iload_n 1, 1) := by decide +kernel
theorem dX7_tokenEnd_16 : decode cX7_tokenEnd 16 = .ok (.iconst 1, 1) := by decide +kernel
theorem dX7_tokenEnd_17 : decode cX7_tokenEnd 17 = .ok (.iadd, 1) := by decide +kernel
theorem dX7_tokenEnd_18 : decode cX7_tokenEnd 18 = .ok (.istore 5, 2) := by decide +kernel
theorem dX7_tokenEnd_20 : decode cX7_tokenEnd 20 = .ok (.iload 5, 2) := by decide +kernel
theorem dX7_tokenEnd_22 : decode cX7_tokenEnd 22 = .ok (.iload_n 2, 1) := by decide +kernel
theorem dX7_tokenEnd_23 : decode cX7_tokenEnd 23 = .ok (.if_icmp .ge 38, 3) := by decide +kernel
theorem dX7_tokenEnd_26 : decode cX7_tokenEnd 26 = .ok (.iload_n 3, 1) := by decide +kernel
theorem dX7_tokenEnd_27 : decode cX7_tokenEnd 27 = .ok (.ifCond .eq 13, 3) := by decide +kernel
theorem dX7_tokenEnd_30 : decode cX7_tokenEnd 30 = .ok (.aload_n 0, 1) := by decide +kernel
theorem dX7_tokenEnd_31 : decode cX7_tokenEnd 31 = .ok (.iload 5, 2) := by decide +kernel
theorem dX7_tokenEnd_33 : decode cX7_tokenEnd 33 = .ok (.baload, 1) := by decide +kernel
theorem dX7_tokenEnd_34 : decode cX7_tokenEnd 34 = .ok (.invokestatic 65, 3) := by decide +kernel
theorem dX7_tokenEnd_37 : decode cX7_tokenEnd 37 = .ok (.ifCond .ne 18, 3) := by decide +kernel
theorem dX7_tokenEnd_40 : decode cX7_tokenEnd 40 = .ok (.iload 4, 2) := by decide +kernel
theorem dX7_tokenEnd_42 : decode cX7_tokenEnd 42 = .ok (.ifCond .eq 19, 3) := by decide +kernel
theorem dX7_tokenEnd_45 : decode cX7_tokenEnd 45 = .ok (.aload_n 0, 1) := by decide +kernel
theorem dX7_tokenEnd_46 : decode cX7_tokenEnd 46 = .ok (.iload 5, 2) := by decide +kernel
theorem dX7_tokenEnd_48 : decode cX7_tokenEnd 48 = .ok (.baload, 1) := by decide +kernel
theorem dX7_tokenEnd_49 : decode cX7_tokenEnd 49 = .ok (.invokestatic 69, 3) := by decide +kernel
theorem dX7_tokenEnd_52 : decode cX7_tokenEnd 52 = .ok (.ifCond .eq 9, 3) := by decide +kernel
theorem dX7_tokenEnd_55 : decode cX7_tokenEnd 55 = .ok (.iinc 5 1, 3) := by decide +kernel
theorem dX7_tokenEnd_58 : decode cX7_tokenEnd 58 = .ok (.goto (-38), 3) := by decide +kernel
theorem dX7_tokenEnd_61 : decode cX7_tokenEnd 61 = .ok (.iload 5, 2) := by decide +kernel
theorem dX7_tokenEnd_63 : decode cX7_tokenEnd 63 = .ok (.ireturn, 1) := by decide +kernel
theorem dX7_codeOf_0 : decode cX7_codeOf 0 = .ok (.aload_n 0, 1) := by decide +kernel
theorem dX7_codeOf_1 : decode cX7_codeOf 1 = .ok (.iload_n 1, 1) := by decide +kernel
theorem dX7_codeOf_2 : decode cX7_codeOf 2 = .ok (.baload, 1) := by decide +kernel
theorem dX7_codeOf_3 : decode cX7_codeOf 3 = .ok (.invokestatic 65, 3) := by decide +kernel
theorem dX7_codeOf_6 : decode cX7_codeOf 6 = .ok (.ifCond .eq 10, 3) := by decide +kernel
theorem dX7_codeOf_9 : decode cX7_codeOf 9 = .ok (.aload_n 0, 1) := by decide +kernel
theorem dX7_codeOf_10 : decode cX7_codeOf 10 = .ok (.iload_n 1, 1) := by decide +kernel
theorem dX7_codeOf_11 : decode cX7_codeOf 11 = .ok (.iload_n 2, 1) := by decide +kernel
theorem dX7_codeOf_12 : decode cX7_codeOf 12 = .ok (.invokestatic 72, 3) := by decide +kernel
theorem dX7_codeOf_15 : decode cX7_codeOf 15 = .ok (.ireturn, 1) := by decide +kernel
theorem dX7_codeOf_16 : decode cX7_codeOf 16 = .ok (.aload_n 0, 1) := by decide +kernel
theorem dX7_codeOf_17 : decode cX7_codeOf 17 = .ok (.iload_n 1, 1) := by decide +kernel
theorem dX7_codeOf_18 : decode cX7_codeOf 18 = .ok (.baload, 1) := by decide +kernel
theorem dX7_codeOf_19 : decode cX7_codeOf 19 = .ok (.invokestatic 69, 3) := by decide +kernel
theorem dX7_codeOf_22 : decode cX7_codeOf 22 = .ok (.ifCond .eq 10, 3) := by decide +kernel
theorem dX7_codeOf_25 : decode cX7_codeOf 25 = .ok (.aload_n 0, 1) := by decide +kernel
theorem dX7_codeOf_26 : decode cX7_codeOf 26 = .ok (.iload_n 1, 1) := by decide +kernel
theorem dX7_codeOf_27 : decode cX7_codeOf 27 = .ok (.iload_n 2, 1) := by decide +kernel
theorem dX7_codeOf_28 : decode cX7_codeOf 28 = .ok (.invokestatic 75, 3) := by decide +kernel
theorem dX7_codeOf_31 : decode cX7_codeOf 31 = .ok (.ireturn, 1) := by decide +kernel
theorem dX7_codeOf_32 : decode cX7_codeOf 32 = .ok (.aload_n 0, 1) := by decide +kernel
theorem dX7_codeOf_33 : decode cX7_codeOf 33 = .ok (.iload_n 1, 1) := by decide +kernel
theorem dX7_codeOf_34 : decode cX7_codeOf 34 = .ok (.baload, 1) := by decide +kernel
theorem dX7_codeOf_35 : decode cX7_codeOf 35 = .ok (.sipush 255, 3) := by decide +kernel
theorem dX7_codeOf_38 : decode cX7_codeOf 38 = .ok (.iand, 1) := by decide +kernel
theorem dX7_codeOf_39 : decode cX7_codeOf 39 = .ok (.istore_n 3, 1) := by decide +kernel
theorem dX7_codeOf_40 : decode cX7_codeOf 40 = .ok (.ldc 78, 2) := by decide +kernel
theorem dX7_codeOf_42 : decode cX7_codeOf 42 = .ok (.iload_n 3, 1) := by decide +kernel
theorem dX7_codeOf_43 : decode cX7_codeOf 43 = .ok (.i2c, 1) := by decide +kernel
theorem dX7_codeOf_44 : decode cX7_codeOf 44 = .ok (.invokevirtual 80, 3) := by decide +kernel
theorem dX7_codeOf_47 : decode cX7_codeOf 47 = .ok (.ifCond .lt 11, 3) := by decide +kernel
theorem dX7_codeOf_50 : decode cX7_codeOf 50 = .ok (.sipush 10000, 3) := by decide +kernel
theorem dX7_codeOf_53 : decode cX7_codeOf 53 = .ok (.iload_n 3, 1) := by decide +kernel
theorem dX7_codeOf_54 : decode cX7_codeOf 54 = .ok (.iadd, 1) := by decide +kernel
theorem dX7_codeOf_55 : decode cX7_codeOf 55 = .ok (.goto 6, 3) := by decide +kernel
theorem dX7_codeOf_58 : decode cX7_codeOf 58 = .ok (.sipush 30001, 3) := by decide +kernel
theorem dX7_codeOf_61 : decode cX7_codeOf 61 = .ok (.ireturn, 1) := by decide +kernel
theorem dX7_numberOf_0 : decode cX7_numberOf 0 = .ok (.iload_n 2, 1) := by decide +kernel
theorem dX7_numberOf_1 : decode cX7_numberOf 1 = .ok (.iload_n 1, 1) := by decide +kernel
theorem dX7_numberOf_2 : decode cX7_numberOf 2 = .ok (.isub, 1) := by decide +kernel
theorem dX7_numberOf_3 : decode cX7_numberOf 3 = .ok (.iconst 4, 1) := by decide +kernel
theorem dX7_numberOf_4 : decode cX7_numberOf 4 = .ok (.if_icmp .le 7, 3) := by decide +kernel
theorem dX7_numberOf_7 : decode cX7_numberOf 7 = .ok (.sipush 30001, 3) := by decide +kernel
theorem dX7_numberOf_10 : decode cX7_numberOf 10 = .ok (.ireturn, 1) := by decide +kernel
theorem dX7_numberOf_11 : decode cX7_numberOf 11 = .ok (.iconst 0, 1) := by decide +kernel
theorem dX7_numberOf_12 : decode cX7_numberOf 12 = .ok (.istore_n 3, 1) := by decide +kernel
theorem dX7_numberOf_13 : decode cX7_numberOf 13 = .ok (.iload_n 1, 1) := by decide +kernel
theorem dX7_numberOf_14 : decode cX7_numberOf 14 = .ok (.istore 4, 2) := by decide +kernel
theorem dX7_numberOf_16 : decode cX7_numberOf 16 = .ok (.iload 4, 2) := by decide +kernel
theorem dX7_numberOf_18 : decode cX7_numberOf 18 = .ok (.iload_n 2, 1) := by decide +kernel
theorem dX7_numberOf_19 : decode cX7_numberOf 19 = .ok (.if_icmp .ge 22, 3) := by decide +kernel
theorem dX7_numberOf_22 : decode cX7_numberOf 22 = .ok (.iload_n 3, 1) := by decide +kernel
theorem dX7_numberOf_23 : decode cX7_numberOf 23 = .ok (.bipush 10, 2) := by decide +kernel
theorem dX7_numberOf_25 : decode cX7_numberOf 25 = .ok (.imul, 1) := by decide +kernel
theorem dX7_numberOf_26 : decode cX7_numberOf 26 = .ok (.aload_n 0, 1) := by decide +kernel
theorem dX7_numberOf_27 : decode cX7_numberOf 27 = .ok (.iload 4, 2) := by decide +kernel
theorem dX7_numberOf_29 : decode cX7_numberOf 29 = .ok (.baload, 1) := by decide +kernel
theorem dX7_numberOf_30 : decode cX7_numberOf 30 = .ok (.iadd, 1) := by decide +kernel
theorem dX7_numberOf_31 : decode cX7_numberOf 31 = .ok (.bipush 48, 2) := by decide +kernel
theorem dX7_numberOf_33 : decode cX7_numberOf 33 = .ok (.isub, 1) := by decide +kernel
theorem dX7_numberOf_34 : decode cX7_numberOf 34 = .ok (.istore_n 3, 1) := by decide +kernel
theorem dX7_numberOf_35 : decode cX7_numberOf 35 = .ok (.iinc 4 1, 3) := by decide +kernel
theorem dX7_numberOf_38 : decode cX7_numberOf 38 = .ok (.goto (-22), 3) := by decide +kernel
theorem dX7_numberOf_41 : decode cX7_numberOf 41 = .ok (.iload_n 3, 1) := by decide +kernel
theorem dX7_numberOf_42 : decode cX7_numberOf 42 = .ok (.ireturn, 1) := by decide +kernel
theorem dX7_wordOf_0 : decode cX7_wordOf 0 = .ok (.sipush 20000, 3) := by decide +kernel
theorem dX7_wordOf_3 : decode cX7_wordOf 3 = .ok (.istore_n 3, 1) := by decide +kernel
theorem dX7_wordOf_4 : decode cX7_wordOf 4 = .ok (.iconst 0, 1) := by decide +kernel
theorem dX7_wordOf_5 : decode cX7_wordOf 5 = .ok (.istore 4, 2) := by decide +kernel
theorem dX7_wordOf_7 : decode cX7_wordOf 7 = .ok (.iconst 0, 1) := by decide +kernel
theorem dX7_wordOf_8 : decode cX7_wordOf 8 = .ok (.istore 5, 2) := by decide +kernel
theorem dX7_wordOf_10 : decode cX7_wordOf 10 = .ok (.iload 5, 2) := by decide +kernel
theorem dX7_wordOf_12 : decode cX7_wordOf 12 = .ok (.ldc 86, 2) := by decide +kernel
theorem dX7_wordOf_14 : decode cX7_wordOf 14 = .ok (.invokevirtual 88, 3) := by decide +kernel
theorem dX7_wordOf_17 : decode cX7_wordOf 17 = .ok (.if_icmp .ge 55, 3) := by decide +kernel
theorem dX7_wordOf_20 : decode cX7_wordOf 20 = .ok (.ldc 86, 2) := by decide +kernel
theorem dX7_wordOf_22 : decode cX7_wordOf 22 = .ok (.iload 5, 2) := by decide +kernel
theorem dX7_wordOf_24 : decode cX7_wordOf 24 = .ok (.invokevirtual 91, 3) := by decide +kernel
theorem dX7_wordOf_27 : decode cX7_wordOf 27 = .ok (.bipush 32, 2) := by decide +kernel
theorem dX7_wordOf_29 : decode cX7_wordOf 29 = .ok (.if_icmp .ne 37, 3) := by decide +kernel
theorem dX7_wordOf_32 : decode cX7_wordOf 32 = .ok (.iload 5, 2) := by decide +kernel
theorem dX7_wordOf_34 : decode cX7_wordOf 34 = .ok (.iload 4, 2) := by decide +kernel
theorem dX7_wordOf_36 : decode cX7_wordOf 36 = .ok (.isub, 1) := by decide +kernel
theorem dX7_wordOf_37 : decode cX7_wordOf 37 = .ok (.iload_n 2, 1) := by decide +kernel
theorem dX7_wordOf_38 : decode cX7_wordOf 38 = .ok (.iload_n 1, 1) := by decide +kernel
theorem dX7_wordOf_39 : decode cX7_wordOf 39 = .ok (.isub, 1) := by decide +kernel
theorem dX7_wordOf_40 : decode cX7_wordOf 40 = .ok (.if_icmp .ne 17, 3) := by decide +kernel
theorem dX7_wordOf_43 : decode cX7_wordOf 43 = .ok (.aload_n 0, 1) := by decide +kernel
theorem dX7_wordOf_44 : decode cX7_wordOf 44 = .ok (.iload_n 1, 1) := by decide +kernel
theorem dX7_wordOf_45 : decode cX7_wordOf 45 = .ok (.iload 4, 2) := by decide +kernel
theorem dX7_wordOf_47 : decode cX7_wordOf 47 = .ok (.iload 5, 2) := by decide +kernel
theorem dX7_wordOf_49 : decode cX7_wordOf 49 = .ok (.invokestatic 95, 3) := by decide +kernel
theorem dX7_wordOf_52 : decode cX7_wordOf 52 = .ok (.ifCond .eq 5, 3) := by decide +kernel
theorem dX7_wordOf_55 : decode cX7_wordOf 55 = .ok (.iload_n 3, 1) := by decide +kernel
theorem dX7_wordOf_56 : decode cX7_wordOf 56 = .ok (.ireturn, 1) := by decide +kernel
theorem dX7_wordOf_57 : decode cX7_wordOf 57 = .ok (.iinc 3 1, 3) := by decide +kernel
theorem dX7_wordOf_60 : decode cX7_wordOf 60 = .ok (.iload 5, 2) := by decide +kernel
theorem dX7_wordOf_62 : decode cX7_wordOf 62 = .ok (.iconst 1, 1) := by decide +kernel
theorem dX7_wordOf_63 : decode cX7_wordOf 63 = .ok (.iadd, 1) := by decide +kernel
theorem dX7_wordOf_64 : decode cX7_wordOf 64 = .ok (.istore 4, 2) := by decide +kernel
theorem dX7_wordOf_66 : decode cX7_wordOf 66 = .ok (.iinc 5 1, 3) := by decide +kernel
theorem dX7_wordOf_69 : decode cX7_wordOf 69 = .ok (.goto (-59), 3) := by decide +kernel
theorem dX7_wordOf_72 : decode cX7_wordOf 72 = .ok (.sipush 30001, 3) := by decide +kernel
theorem dX7_wordOf_75 : decode cX7_wordOf 75 = .ok (.ireturn, 1) := by decide +kernel
theorem dX7_isSame_0 : decode cX7_isSame 0 = .ok (.iload_n 2, 1) := by decide +kernel
theorem dX7_isSame_1 : decode cX7_isSame 1 = .ok (.istore 4, 2) := by decide +kernel
theorem dX7_isSame_3 : decode cX7_isSame 3 = .ok (.iload 4, 2) := by decide +kernel
theorem dX7_isSame_5 : decode cX7_isSame 5 = .ok (.iload_n 3, 1) := by decide +kernel
theorem dX7_isSame_6 : decode cX7_isSame 6 = .ok (.if_icmp .ge 29, 3) := by decide +kernel
theorem dX7_isSame_9 : decode cX7_isSame 9 = .ok (.aload_n 0, 1) := by decide +kernel
theorem dX7_isSame_10 : decode cX7_isSame 10 = .ok (.iload_n 1, 1) := by decide +kernel
theorem dX7_isSame_11 : decode cX7_isSame 11 = .ok (.iload 4, 2) := by decide +kernel
theorem dX7_isSame_13 : decode cX7_isSame 13 = .ok (.iadd, 1) := by decide +kernel
theorem dX7_isSame_14 : decode cX7_isSame 14 = .ok (.iload_n 2, 1) := by decide +kernel
theorem dX7_isSame_15 : decode cX7_isSame 15 = .ok (.isub, 1) := by decide +kernel
theorem dX7_isSame_16 : decode cX7_isSame 16 = .ok (.baload, 1) := by decide +kernel
theorem dX7_isSame_17 : decode cX7_isSame 17 = .ok (.ldc 86, 2) := by decide +kernel
theorem dX7_isSame_19 : decode cX7_isSame 19 = .ok (.iload 4, 2) := by decide +kernel
theorem dX7_isSame_21 : decode cX7_isSame 21 = .ok (.invokevirtual 91, 3) := by decide +kernel
theorem dX7_isSame_24 : decode cX7_isSame 24 = .ok (.if_icmp .eq 5, 3) := by decide +kernel
theorem dX7_isSame_27 : decode cX7_isSame 27 = .ok (.iconst 0, 1) := by decide +kernel
theorem dX7_isSame_28 : decode cX7_isSame 28 = .ok (.ireturn, 1) := by decide +kernel
theorem dX7_isSame_29 : decode cX7_isSame 29 = .ok (.iinc 4 1, 3) := by decide +kernel
theorem dX7_isSame_32 : decode cX7_isSame 32 = .ok (.goto (-29), 3) := by decide +kernel
theorem dX7_isSame_35 : decode cX7_isSame 35 = .ok (.iconst 1, 1) := by decide +kernel
theorem dX7_isSame_36 : decode cX7_isSame 36 = .ok (.ireturn, 1) := by decide +kernel
theorem dX7_isLetter_0 : decode cX7_isLetter 0 = .ok (.iload_n 0, 1) := by decide +kernel
theorem dX7_isLetter_1 : decode cX7_isLetter 1 = .ok (.bipush 97, 2) := by decide +kernel
theorem dX7_isLetter_3 : decode cX7_isLetter 3 = .ok (.if_icmp .lt 9, 3) := by decide +kernel
theorem dX7_isLetter_6 : decode cX7_isLetter 6 = .ok (.iload_n 0, 1) := by decide +kernel
theorem dX7_isLetter_7 : decode cX7_isLetter 7 = .ok (.bipush 122, 2) := by decide +kernel
theorem dX7_isLetter_9 : decode cX7_isLetter 9 = .ok (.if_icmp .le 15, 3) := by decide +kernel
theorem dX7_isLetter_12 : decode cX7_isLetter 12 = .ok (.iload_n 0, 1) := by decide +kernel
theorem dX7_isLetter_13 : decode cX7_isLetter 13 = .ok (.bipush 65, 2) := by decide +kernel
theorem dX7_isLetter_15 : decode cX7_isLetter 15 = .ok (.if_icmp .lt 13, 3) := by decide +kernel
theorem dX7_isLetter_18 : decode cX7_isLetter 18 = .ok (.iload_n 0, 1) := by decide +kernel
theorem dX7_isLetter_19 : decode cX7_isLetter 19 = .ok (.bipush 90, 2) := by decide +kernel
theorem dX7_isLetter_21 : decode cX7_isLetter 21 = .ok (.if_icmp .gt 7, 3) := by decide +kernel
theorem dX7_isLetter_24 : decode cX7_isLetter 24 = .ok (.iconst 1, 1) := by decide +kernel
theorem dX7_isLetter_25 : decode cX7_isLetter 25 = .ok (.goto 4, 3) := by decide +kernel
theorem dX7_isLetter_28 : decode cX7_isLetter 28 = .ok (.iconst 0, 1) := by decide +kernel
theorem dX7_isLetter_29 : decode cX7_isLetter 29 = .ok (.ireturn, 1) := by decide +kernel
theorem dX7_isDigit_0 : decode cX7_isDigit 0 = .ok (.iload_n 0, 1) := by decide +kernel
theorem dX7_isDigit_1 : decode cX7_isDigit 1 = .ok (.bipush 48, 2) := by decide +kernel
theorem dX7_isDigit_3 : decode cX7_isDigit 3 = .ok (.if_icmp .lt 13, 3) := by decide +kernel
theorem dX7_isDigit_6 : decode cX7_isDigit 6 = .ok (.iload_n 0, 1) := by decide +kernel
theorem dX7_isDigit_7 : decode cX7_isDigit 7 = .ok (.bipush 57, 2) := by decide +kernel
theorem dX7_isDigit_9 : decode cX7_isDigit 9 = .ok (.if_icmp .gt 7, 3) := by decide +kernel
theorem dX7_isDigit_12 : decode cX7_isDigit 12 = .ok (.iconst 1, 1) := by decide +kernel
theorem dX7_isDigit_13 : decode cX7_isDigit 13 = .ok (.goto 4, 3) := by decide +kernel
theorem dX7_isDigit_16 : decode cX7_isDigit 16 = .ok (.iconst 0, 1) := by decide +kernel
theorem dX7_isDigit_17 : decode cX7_isDigit 17 = .ok (.ireturn, 1) := by decide +kernel
theorem dX7_peek_0 : decode cX7_peek 0 = .ok (.aload_n 0, 1) := by decide +kernel
theorem dX7_peek_1 : decode cX7_peek 1 = .ok (.getfield 22, 3) := by decide +kernel
theorem dX7_peek_4 : decode cX7_peek 4 = .ok (.ifCond .lt 26, 3) := by decide +kernel
theorem dX7_peek_7 : decode cX7_peek 7 = .ok (.aload_n 0, 1) := by decide +kernel
theorem dX7_peek_8 : decode cX7_peek 8 = .ok (.getfield 22, 3) := by decide +kernel
theorem dX7_peek_11 : decode cX7_peek 11 = .ok (.aload_n 0, 1) := by decide +kernel
theorem dX7_peek_12 : decode cX7_peek 12 = .ok (.getfield 18, 3) := by decide +kernel
theorem dX7_peek_15 : decode cX7_peek 15 = .ok (.if_icmp .ge 15, 3) := by decide +kernel
theorem dX7_peek_18 : decode cX7_peek 18 = .ok (.aload_n 0, 1) := by decide +kernel
theorem dX7_peek_19 : decode cX7_peek 19 = .ok (.getfield 11, 3) := by decide +kernel
theorem dX7_peek_22 : decode cX7_peek 22 = .ok (.aload_n 0, 1) := by decide +kernel
theorem dX7_peek_23 : decode cX7_peek 23 = .ok (.getfield 22, 3) := by decide +kernel
theorem dX7_peek_26 : decode cX7_peek 26 = .ok (.iaload, 1) := by decide +kernel
theorem dX7_peek_27 : decode cX7_peek 27 = .ok (.goto 6, 3) := by decide +kernel
theorem dX7_peek_30 : decode cX7_peek 30 = .ok (.sipush 30000, 3) := by decide +kernel
theorem dX7_peek_33 : decode cX7_peek 33 = .ok (.ireturn, 1) := by decide +kernel
theorem dX7_fail_0 : decode cX7_fail 0 = .ok (.aload_n 0, 1) := by decide +kernel
theorem dX7_fail_1 : decode cX7_fail 1 = .ok (.getfield 31, 3) := by decide +kernel
theorem dX7_fail_4 : decode cX7_fail 4 = .ok (.ifCond .ne 43, 3) := by decide +kernel
theorem dX7_fail_7 : decode cX7_fail 7 = .ok (.aload_n 0, 1) := by decide +kernel
theorem dX7_fail_8 : decode cX7_fail 8 = .ok (.iload_n 1, 1) := by decide +kernel
theorem dX7_fail_9 : decode cX7_fail 9 = .ok (.putfield 31, 3) := by decide +kernel
theorem dX7_fail_12 : decode cX7_fail 12 = .ok (.aload_n 0, 1) := by decide +kernel
theorem dX7_fail_13 : decode cX7_fail 13 = .ok (.aload_n 0, 1) := by decide +kernel
theorem dX7_fail_14 : decode cX7_fail 14 = .ok (.getfield 22, 3) := by decide +kernel
theorem dX7_fail_17 : decode cX7_fail 17 = .ok (.ifCond .lt 26, 3) := by decide +kernel
theorem dX7_fail_20 : decode cX7_fail 20 = .ok (.aload_n 0, 1) := by decide +kernel
theorem dX7_fail_21 : decode cX7_fail 21 = .ok (.getfield 22, 3) := by decide +kernel
theorem dX7_fail_24 : decode cX7_fail 24 = .ok (.aload_n 0, 1) := by decide +kernel
theorem dX7_fail_25 : decode cX7_fail 25 = .ok (.getfield 18, 3) := by decide +kernel
theorem dX7_fail_28 : decode cX7_fail 28 = .ok (.if_icmp .gt 15, 3) := by decide +kernel
theorem dX7_fail_31 : decode cX7_fail 31 = .ok (.aload_n 0, 1) := by decide +kernel
theorem dX7_fail_32 : decode cX7_fail 32 = .ok (.getfield 15, 3) := by decide +kernel
theorem dX7_fail_35 : decode cX7_fail 35 = .ok (.aload_n 0, 1) := by decide +kernel
theorem dX7_fail_36 : decode cX7_fail 36 = .ok (.getfield 22, 3) := by decide +kernel
theorem dX7_fail_39 : decode cX7_fail 39 = .ok (.iaload, 1) := by decide +kernel
theorem dX7_fail_40 : decode cX7_fail 40 = .ok (.goto 4, 3) := by decide +kernel
theorem dX7_fail_43 : decode cX7_fail 43 = .ok (.iconst (-1), 1) := by decide +kernel
theorem dX7_fail_44 : decode cX7_fail 44 = .ok (.putfield 34, 3) := by decide +kernel
theorem dX7_fail_47 : decode cX7_fail 47 = .ok (.aload_n 0, 1) := by decide +kernel
theorem dX7_fail_48 : decode cX7_fail 48 = .ok (.aload_n 0, 1) := by decide +kernel
theorem dX7_fail_49 : decode cX7_fail 49 = .ok (.getfield 18, 3) := by decide +kernel
theorem dX7_fail_52 : decode cX7_fail 52 = .ok (.putfield 22, 3) := by decide +kernel
theorem dX7_fail_55 : decode cX7_fail 55 = .ok (.return_, 1) := by decide +kernel
theorem dX7_expect_0 : decode cX7_expect 0 = .ok (.aload_n 0, 1) := by decide +kernel
theorem dX7_expect_1 : decode cX7_expect 1 = .ok (.invokevirtual 50, 3) := by decide +kernel
theorem dX7_expect_4 : decode cX7_expect 4 = .ok (.iload_n 1, 1) := by decide +kernel
theorem dX7_expect_5 : decode cX7_expect 5 = .ok (.if_icmp .ne 16, 3) := by decide +kernel
theorem dX7_expect_8 : decode cX7_expect 8 = .ok (.aload_n 0, 1) := by decide +kernel
theorem dX7_expect_9 : decode cX7_expect 9 = .ok (.dup, 1) := by decide +kernel
theorem dX7_expect_10 : decode cX7_expect 10 = .ok (.getfield 22, 3) := by decide +kernel
theorem dX7_expect_13 : decode cX7_expect 13 = .ok (.iconst 1, 1) := by decide +kernel
theorem dX7_expect_14 : decode cX7_expect 14 = .ok (.iadd, 1) := by decide +kernel
theorem dX7_expect_15 : decode cX7_expect 15 = .ok (.putfield 22, 3) := by decide +kernel
theorem dX7_expect_18 : decode cX7_expect 18 = .ok (.goto 8, 3) := by decide +kernel
theorem dX7_expect_21 : decode cX7_expect 21 = .ok (.aload_n 0, 1) := by decide +kernel
theorem dX7_expect_22 : decode cX7_expect 22 = .ok (.iconst 1, 1) := by decide +kernel
theorem dX7_expect_23 : decode cX7_expect 23 = .ok (.invokevirtual 54, 3) := by decide +kernel
theorem dX7_expect_26 : decode cX7_expect 26 = .ok (.return_, 1) := by decide +kernel
theorem dX7_either_0 : decode cX7_either 0 = .ok (.iconst 0, 1) := by decide +kernel
theorem dX7_either_1 : decode cX7_either 1 = .ok (.istore_n 2, 1) := by decide +kernel
theorem dX7_either_2 : decode cX7_either 2 = .ok (.iconst 1, 1) := by decide +kernel
theorem dX7_either_3 : decode cX7_either 3 = .ok (.istore_n 3, 1) := by decide +kernel
theorem dX7_either_4 : decode cX7_either 4 = .ok (.iconst 0, 1) := by decide +kernel
theorem dX7_either_5 : decode cX7_either 5 = .ok (.istore 4, 2) := by decide +kernel
theorem dX7_either_7 : decode cX7_either 7 = .ok (.iload 4, 2) := by decide +kernel
theorem dX7_either_9 : decode cX7_either 9 = .ok (.sipush 400, 3) := by decide +kernel
theorem dX7_either_12 : decode cX7_either 12 = .ok (.if_icmp .gt 89, 3) := by decide +kernel
theorem dX7_either_15 : decode cX7_either 15 = .ok (.aload_n 0, 1) := by decide +kernel
theorem dX7_either_16 : decode cX7_either 16 = .ok (.iload_n 1, 1) := by decide +kernel
theorem dX7_either_17 : decode cX7_either 17 = .ok (.invokevirtual 99, 3) := by decide +kernel
theorem dX7_either_20 : decode cX7_either 20 = .ok (.istore 5, 2) := by decide +kernel
theorem dX7_either_22 : decode cX7_either 22 = .ok (.iload_n 3, 1) := by decide +kernel
theorem dX7_either_23 : decode cX7_either 23 = .ok (.ifCond .eq 12, 3) := by decide +kernel
theorem dX7_either_26 : decode cX7_either 26 = .ok (.iload 5, 2) := by decide +kernel
theorem dX7_either_28 : decode cX7_either 28 = .ok (.ifCond .eq 7, 3) := by decide +kernel
theorem dX7_either_31 : decode cX7_either 31 = .ok (.iconst 1, 1) := by decide +kernel
theorem dX7_either_32 : decode cX7_either 32 = .ok (.goto 4, 3) := by decide +kernel
theorem dX7_either_35 : decode cX7_either 35 = .ok (.iconst 0, 1) := by decide +kernel
theorem dX7_either_36 : decode cX7_either 36 = .ok (.istore_n 3, 1) := by decide +kernel
theorem dX7_either_37 : decode cX7_either 37 = .ok (.aload_n 0, 1) := by decide +kernel
theorem dX7_either_38 : decode cX7_either 38 = .ok (.invokevirtual 50, 3) := by decide +kernel
theorem dX7_either_41 : decode cX7_either 41 = .ok (.istore 6, 2) := by decide +kernel
theorem dX7_either_43 : decode cX7_either 43 = .ok (.iload 6, 2) := by decide +kernel
theorem dX7_either_45 : decode cX7_either 45 = .ok (.sipush 20003, 3) := by decide +kernel
theorem dX7_either_48 : decode cX7_either 48 = .ok (.if_icmp .eq 19, 3) := by decide +kernel
theorem dX7_either_51 : decode cX7_either 51 = .ok (.iload_n 2, 1) := by decide +kernel
theorem dX7_either_52 : decode cX7_either 52 = .ok (.ifCond .ne 7, 3) := by decide +kernel
theorem dX7_either_55 : decode cX7_either 55 = .ok (.iload_n 3, 1) := by decide +kernel
theorem dX7_either_56 : decode cX7_either 56 = .ok (.ifCond .eq 7, 3) := by decide +kernel
theorem dX7_either_59 : decode cX7_either 59 = .ok (.iconst 1, 1) := by decide +kernel
theorem dX7_either_60 : decode cX7_either 60 = .ok (.goto 4, 3) := by decide +kernel
theorem dX7_either_63 : decode cX7_either 63 = .ok (.iconst 0, 1) := by decide +kernel
theorem dX7_either_64 : decode cX7_either 64 = .ok (.istore_n 2, 1) := by decide +kernel
theorem dX7_either_65 : decode cX7_either 65 = .ok (.iconst 1, 1) := by decide +kernel
theorem dX7_either_66 : decode cX7_either 66 = .ok (.istore_n 3, 1) := by decide +kernel
theorem dX7_either_67 : decode cX7_either 67 = .ok (.iload 6, 2) := by decide +kernel
theorem dX7_either_69 : decode cX7_either 69 = .ok (.sipush 20003, 3) := by decide +kernel
theorem dX7_either_72 : decode cX7_either 72 = .ok (.if_icmp .eq 13, 3) := by decide +kernel
theorem dX7_either_75 : decode cX7_either 75 = .ok (.iload 6, 2) := by decide +kernel
theorem dX7_either_77 : decode cX7_either 77 = .ok (.sipush 20002, 3) := by decide +kernel
theorem dX7_either_80 : decode cX7_either 80 = .ok (.if_icmp .eq 5, 3) := by decide +kernel
theorem dX7_either_83 : decode cX7_either 83 = .ok (.iload_n 2, 1) := by decide +kernel
theorem dX7_either_84 : decode cX7_either 84 = .ok (.ireturn, 1) := by decide +kernel
theorem dX7_either_85 : decode cX7_either 85 = .ok (.aload_n 0, 1) := by decide +kernel
theorem dX7_either_86 : decode cX7_either 86 = .ok (.dup, 1) := by decide +kernel
theorem dX7_either_87 : decode cX7_either 87 = .ok (.getfield 22, 3) := by decide +kernel
theorem dX7_either_90 : decode cX7_either 90 = .ok (.iconst 1, 1) := by decide +kernel
theorem dX7_either_91 : decode cX7_either 91 = .ok (.iadd, 1) := by decide +kernel
theorem dX7_either_92 : decode cX7_either 92 = .ok (.putfield 22, 3) := by decide +kernel
theorem dX7_either_95 : decode cX7_either 95 = .ok (.iinc 4 1, 3) := by decide +kernel
theorem dX7_either_98 : decode cX7_either 98 = .ok (.goto (-91), 3) := by decide +kernel
theorem dX7_either_101 : decode cX7_either 101 = .ok (.iload_n 2, 1) := by decide +kernel
theorem dX7_either_102 : decode cX7_either 102 = .ok (.ireturn, 1) := by decide +kernel
theorem dX7_claim_0 : decode cX7_claim 0 = .ok (.aload_n 0, 1) := by decide +kernel
theorem dX7_claim_1 : decode cX7_claim 1 = .ok (.invokevirtual 50, 3) := by decide +kernel
theorem dX7_claim_4 : decode cX7_claim 4 = .ok (.istore_n 2, 1) := by decide +kernel
theorem dX7_claim_5 : decode cX7_claim 5 = .ok (.iload_n 2, 1) := by decide +kernel
theorem dX7_claim_6 : decode cX7_claim 6 = .ok (.sipush 20004, 3) := by decide +kernel
theorem dX7_claim_9 : decode cX7_claim 9 = .ok (.if_icmp .eq 36, 3) := by decide +kernel
theorem dX7_claim_12 : decode cX7_claim 12 = .ok (.iload_n 2, 1) := by decide +kernel
theorem dX7_claim_13 : decode cX7_claim 13 = .ok (.sipush 10040, 3) := by decide +kernel
theorem dX7_claim_16 : decode cX7_claim 16 = .ok (.if_icmp .eq 29, 3) := by decide +kernel
theorem dX7_claim_19 : decode cX7_claim 19 = .ok (.aload_n 0, 1) := by decide +kernel
theorem dX7_claim_20 : decode cX7_claim 20 = .ok (.invokevirtual 102, 3) := by decide +kernel
theorem dX7_claim_23 : decode cX7_claim 23 = .ok (.istore_n 3, 1) := by decide +kernel
theorem dX7_claim_24 : decode cX7_claim 24 = .ok (.aload_n 0, 1) := by decide +kernel
theorem dX7_claim_25 : decode cX7_claim 25 = .ok (.invokevirtual 50, 3) := by decide +kernel
theorem dX7_claim_28 : decode cX7_claim 28 = .ok (.istore 4, 2) := by decide +kernel
theorem dX7_claim_30 : decode cX7_claim 30 = .ok (.aload_n 0, 1) := by decide +kernel
theorem dX7_claim_31 : decode cX7_claim 31 = .ok (.invokevirtual 105, 3) := by decide +kernel
theorem dX7_claim_34 : decode cX7_claim 34 = .ok (.iload_n 3, 1) := by decide +kernel
theorem dX7_claim_35 : decode cX7_claim 35 = .ok (.iload 4, 2) := by decide +kernel
theorem dX7_claim_37 : decode cX7_claim 37 = .ok (.aload_n 0, 1) := by decide +kernel
theorem dX7_claim_38 : decode cX7_claim 38 = .ok (.invokevirtual 102, 3) := by decide +kernel
theorem dX7_claim_41 : decode cX7_claim 41 = .ok (.invokestatic 108, 3) := by decide +kernel
theorem dX7_claim_44 : decode cX7_claim 44 = .ok (.ireturn, 1) := by decide +kernel
theorem dX7_claim_45 : decode cX7_claim 45 = .ok (.iload_n 1, 1) := by decide +kernel
theorem dX7_claim_46 : decode cX7_claim 46 = .ok (.bipush 8, 2) := by decide +kernel
theorem dX7_claim_48 : decode cX7_claim 48 = .ok (.if_icmp .lt 10, 3) := by decide +kernel
theorem dX7_claim_51 : decode cX7_claim 51 = .ok (.aload_n 0, 1) := by decide +kernel
theorem dX7_claim_52 : decode cX7_claim 52 = .ok (.iconst 3, 1) := by decide +kernel
theorem dX7_claim_53 : decode cX7_claim 53 = .ok (.invokevirtual 54, 3) := by decide +kernel
theorem dX7_claim_56 : decode cX7_claim 56 = .ok (.iconst 0, 1) := by decide +kernel
theorem dX7_claim_57 : decode cX7_claim 57 = .ok (.ireturn, 1) := by decide +kernel
theorem dX7_claim_58 : decode cX7_claim 58 = .ok (.aload_n 0, 1) := by decide +kernel
theorem dX7_claim_59 : decode cX7_claim 59 = .ok (.dup, 1) := by decide +kernel
theorem dX7_claim_60 : decode cX7_claim 60 = .ok (.getfield 22, 3) := by decide +kernel
theorem dX7_claim_63 : decode cX7_claim 63 = .ok (.iconst 1, 1) := by decide +kernel
theorem dX7_claim_64 : decode cX7_claim 64 = .ok (.iadd, 1) := by decide +kernel
theorem dX7_claim_65 : decode cX7_claim 65 = .ok (.putfield 22, 3) := by decide +kernel
theorem dX7_claim_68 : decode cX7_claim 68 = .ok (.iload_n 2, 1) := by decide +kernel
theorem dX7_claim_69 : decode cX7_claim 69 = .ok (.sipush 20004, 3) := by decide +kernel
theorem dX7_claim_72 : decode cX7_claim 72 = .ok (.if_icmp .ne 19, 3) := by decide +kernel
theorem dX7_claim_75 : decode cX7_claim 75 = .ok (.aload_n 0, 1) := by decide +kernel
theorem dX7_claim_76 : decode cX7_claim 76 = .ok (.iload_n 1, 1) := by decide +kernel
theorem dX7_claim_77 : decode cX7_claim 77 = .ok (.iconst 1, 1) := by decide +kernel
theorem dX7_claim_78 : decode cX7_claim 78 = .ok (.iadd, 1) := by decide +kernel
theorem dX7_claim_79 : decode cX7_claim 79 = .ok (.invokevirtual 99, 3) := by decide +kernel
theorem dX7_claim_82 : decode cX7_claim 82 = .ok (.ifCond .ne 7, 3) := by decide +kernel
theorem dX7_claim_85 : decode cX7_claim 85 = .ok (.iconst 1, 1) := by decide +kernel
theorem dX7_claim_86 : decode cX7_claim 86 = .ok (.goto 4, 3) := by decide +kernel
theorem dX7_claim_89 : decode cX7_claim 89 = .ok (.iconst 0, 1) := by decide +kernel
theorem dX7_claim_90 : decode cX7_claim 90 = .ok (.ireturn, 1) := by decide +kernel
theorem dX7_claim_91 : decode cX7_claim 91 = .ok (.aload_n 0, 1) := by decide +kernel
theorem dX7_claim_92 : decode cX7_claim 92 = .ok (.iload_n 1, 1) := by decide +kernel
theorem dX7_claim_93 : decode cX7_claim 93 = .ok (.iconst 1, 1) := by decide +kernel
theorem dX7_claim_94 : decode cX7_claim 94 = .ok (.iadd, 1) := by decide +kernel
theorem dX7_claim_95 : decode cX7_claim 95 = .ok (.invokevirtual 58, 3) := by decide +kernel
theorem dX7_claim_98 : decode cX7_claim 98 = .ok (.istore_n 3, 1) := by decide +kernel
theorem dX7_claim_99 : decode cX7_claim 99 = .ok (.aload_n 0, 1) := by decide +kernel
theorem dX7_claim_100 : decode cX7_claim 100 = .ok (.sipush 10041, 3) := by decide +kernel
theorem dX7_claim_103 : decode cX7_claim 103 = .ok (.invokevirtual 62, 3) := by decide +kernel
theorem dX7_claim_106 : decode cX7_claim 106 = .ok (.iload_n 3, 1) := by decide +kernel
theorem dX7_claim_107 : decode cX7_claim 107 = .ok (.ireturn, 1) := by decide +kernel
theorem dX7_expectOrder_0 : decode cX7_expectOrder 0 = .ok (.aload_n 0, 1) := by decide +kernel
theorem dX7_expectOrder_1 : decode cX7_expectOrder 1 = .ok (.invokevirtual 50, 3) := by decide +kernel
theorem dX7_expectOrder_4 : decode cX7_expectOrder 4 = .ok (.istore_n 1, 1) := by decide +kernel
theorem dX7_expectOrder_5 : decode cX7_expectOrder 5 = .ok (.iload_n 1, 1) := by decide +kernel
theorem dX7_expectOrder_6 : decode cX7_expectOrder 6 = .ok (.sipush 10060, 3) := by decide +kernel
theorem dX7_expectOrder_9 : decode cX7_expectOrder 9 = .ok (.if_icmp .eq 17, 3) := by decide +kernel
theorem dX7_expectOrder_12 : decode cX7_expectOrder 12 = .ok (.iload_n 1, 1) := by decide +kernel
theorem dX7_expectOrder_13 : decode cX7_expectOrder 13 = .ok (.sipush 10061, 3) := by decide +kernel
theorem dX7_expectOrder_16 : decode cX7_expectOrder 16 = .ok (.if_icmp .eq 10, 3) := by decide +kernel
theorem dX7_expectOrder_19 : decode cX7_expectOrder 19 = .ok (.iload_n 1, 1) := by decide +kernel
theorem dX7_expectOrder_20 : decode cX7_expectOrder 20 = .ok (.sipush 10062, 3) := by decide +kernel
theorem dX7_expectOrder_23 : decode cX7_expectOrder 23 = .ok (.if_icmp .ne 16, 3) := by decide +kernel
theorem dX7_expectOrder_26 : decode cX7_expectOrder 26 = .ok (.aload_n 0, 1) := by decide +kernel
theorem dX7_expectOrder_27 : decode cX7_expectOrder 27 = .ok (.dup, 1) := by decide +kernel
theorem dX7_expectOrder_28 : decode cX7_expectOrder 28 = .ok (.getfield 22, 3) := by decide +kernel
theorem dX7_expectOrder_31 : decode cX7_expectOrder 31 = .ok (.iconst 1, 1) := by decide +kernel
theorem dX7_expectOrder_32 : decode cX7_expectOrder 32 = .ok (.iadd, 1) := by decide +kernel
theorem dX7_expectOrder_33 : decode cX7_expectOrder 33 = .ok (.putfield 22, 3) := by decide +kernel
theorem dX7_expectOrder_36 : decode cX7_expectOrder 36 = .ok (.goto 8, 3) := by decide +kernel
theorem dX7_expectOrder_39 : decode cX7_expectOrder 39 = .ok (.aload_n 0, 1) := by decide +kernel
theorem dX7_expectOrder_40 : decode cX7_expectOrder 40 = .ok (.iconst 1, 1) := by decide +kernel
theorem dX7_expectOrder_41 : decode cX7_expectOrder 41 = .ok (.invokevirtual 54, 3) := by decide +kernel
theorem dX7_expectOrder_44 : decode cX7_expectOrder 44 = .ok (.return_, 1) := by decide +kernel
theorem dX7_isSo_0 : decode cX7_isSo 0 = .ok (.iload_n 1, 1) := by decide +kernel
theorem dX7_isSo_1 : decode cX7_isSo 1 = .ok (.sipush 10061, 3) := by decide +kernel
theorem dX7_isSo_4 : decode cX7_isSo 4 = .ok (.if_icmp .ne 14, 3) := by decide +kernel
theorem dX7_isSo_7 : decode cX7_isSo 7 = .ok (.iload_n 0, 1) := by decide +kernel
theorem dX7_isSo_8 : decode cX7_isSo 8 = .ok (.iload_n 2, 1) := by decide +kernel
theorem dX7_isSo_9 : decode cX7_isSo 9 = .ok (.if_icmp .ne 7, 3) := by decide +kernel
theorem dX7_isSo_12 : decode cX7_isSo 12 = .ok (.iconst 1, 1) := by decide +kernel
theorem dX7_isSo_13 : decode cX7_isSo 13 = .ok (.goto 4, 3) := by decide +kernel
theorem dX7_isSo_16 : decode cX7_isSo 16 = .ok (.iconst 0, 1) := by decide +kernel
theorem dX7_isSo_17 : decode cX7_isSo 17 = .ok (.ireturn, 1) := by decide +kernel
theorem dX7_isSo_18 : decode cX7_isSo 18 = .ok (.iload_n 1, 1) := by decide +kernel
theorem dX7_isSo_19 : decode cX7_isSo 19 = .ok (.sipush 10060, 3) := by decide +kernel
theorem dX7_isSo_22 : decode cX7_isSo 22 = .ok (.if_icmp .ne 16, 3) := by decide +kernel
theorem dX7_isSo_25 : decode cX7_isSo 25 = .ok (.iload_n 0, 1) := by decide +kernel
theorem dX7_isSo_26 : decode cX7_isSo 26 = .ok (.iload_n 2, 1) := by decide +kernel
theorem dX7_isSo_27 : decode cX7_isSo 27 = .ok (.if_icmp .ge 7, 3) := by decide +kernel
theorem dX7_isSo_30 : decode cX7_isSo 30 = .ok (.iconst 1, 1) := by decide +kernel
theorem dX7_isSo_31 : decode cX7_isSo 31 = .ok (.goto 17, 3) := by decide +kernel
theorem dX7_isSo_34 : decode cX7_isSo 34 = .ok (.iconst 0, 1) := by decide +kernel
theorem dX7_isSo_35 : decode cX7_isSo 35 = .ok (.goto 13, 3) := by decide +kernel
theorem dX7_isSo_38 : decode cX7_isSo 38 = .ok (.iload_n 0, 1) := by decide +kernel
theorem dX7_isSo_39 : decode cX7_isSo 39 = .ok (.iload_n 2, 1) := by decide +kernel
theorem dX7_isSo_40 : decode cX7_isSo 40 = .ok (.if_icmp .le 7, 3) := by decide +kernel
theorem dX7_isSo_43 : decode cX7_isSo 43 = .ok (.iconst 1, 1) := by decide +kernel
theorem dX7_isSo_44 : decode cX7_isSo 44 = .ok (.goto 4, 3) := by decide +kernel
theorem dX7_isSo_47 : decode cX7_isSo 47 = .ok (.iconst 0, 1) := by decide +kernel
theorem dX7_isSo_48 : decode cX7_isSo 48 = .ok (.ireturn, 1) := by decide +kernel
theorem dX7_sum_0 : decode cX7_sum 0 = .ok (.iconst 0, 1) := by decide +kernel
theorem dX7_sum_1 : decode cX7_sum 1 = .ok (.istore_n 1, 1) := by decide +kernel
theorem dX7_sum_2 : decode cX7_sum 2 = .ok (.iconst 0, 1) := by decide +kernel
theorem dX7_sum_3 : decode cX7_sum 3 = .ok (.istore_n 2, 1) := by decide +kernel
theorem dX7_sum_4 : decode cX7_sum 4 = .ok (.aload_n 0, 1) := by decide +kernel
theorem dX7_sum_5 : decode cX7_sum 5 = .ok (.invokevirtual 112, 3) := by decide +kernel
theorem dX7_sum_8 : decode cX7_sum 8 = .ok (.istore_n 3, 1) := by decide +kernel
theorem dX7_sum_9 : decode cX7_sum 9 = .ok (.iconst 0, 1) := by decide +kernel
theorem dX7_sum_10 : decode cX7_sum 10 = .ok (.istore 4, 2) := by decide +kernel
theorem dX7_sum_12 : decode cX7_sum 12 = .ok (.iload 4, 2) := by decide +kernel
theorem dX7_sum_14 : decode cX7_sum 14 = .ok (.sipush 400, 3) := by decide +kernel
theorem dX7_sum_17 : decode cX7_sum 17 = .ok (.if_icmp .gt 143, 3) := by decide +kernel
theorem dX7_sum_20 : decode cX7_sum 20 = .ok (.aload_n 0, 1) := by decide +kernel
theorem dX7_sum_21 : decode cX7_sum 21 = .ok (.invokevirtual 50, 3) := by decide +kernel
theorem dX7_sum_24 : decode cX7_sum 24 = .ok (.istore 5, 2) := by decide +kernel
theorem dX7_sum_26 : decode cX7_sum 26 = .ok (.iload 5, 2) := by decide +kernel
theorem dX7_sum_28 : decode cX7_sum 28 = .ok (.sipush 10043, 3) := by decide +kernel
theorem dX7_sum_31 : decode cX7_sum 31 = .ok (.if_icmp .eq 11, 3) := by decide +kernel
theorem dX7_sum_34 : decode cX7_sum 34 = .ok (.iload 5, 2) := by decide +kernel
theorem dX7_sum_36 : decode cX7_sum 36 = .ok (.sipush 10045, 3) := by decide +kernel
theorem dX7_sum_39 : decode cX7_sum 39 = .ok (.if_icmp .ne 7, 3) := by decide +kernel
theorem dX7_sum_42 : decode cX7_sum 42 = .ok (.iconst 1, 1) := by decide +kernel
theorem dX7_sum_43 : decode cX7_sum 43 = .ok (.goto 4, 3) := by decide +kernel
theorem dX7_sum_46 : decode cX7_sum 46 = .ok (.iconst 0, 1) := by decide +kernel
theorem dX7_sum_47 : decode cX7_sum 47 = .ok (.istore 6, 2) := by decide +kernel
theorem dX7_sum_49 : decode cX7_sum 49 = .ok (.iload 5, 2) := by decide +kernel
theorem dX7_sum_51 : decode cX7_sum 51 = .ok (.sipush 10042, 3) := by decide +kernel
theorem dX7_sum_54 : decode cX7_sum 54 = .ok (.if_icmp .ne 23, 3) := by decide +kernel
theorem dX7_sum_57 : decode cX7_sum 57 = .ok (.aload_n 0, 1) := by decide +kernel
theorem dX7_sum_58 : decode cX7_sum 58 = .ok (.dup, 1) := by decide +kernel
theorem dX7_sum_59 : decode cX7_sum 59 = .ok (.getfield 22, 3) := by decide +kernel
theorem dX7_sum_62 : decode cX7_sum 62 = .ok (.iconst 1, 1) := by decide +kernel
theorem dX7_sum_63 : decode cX7_sum 63 = .ok (.iadd, 1) := by decide +kernel
theorem dX7_sum_64 : decode cX7_sum 64 = .ok (.putfield 22, 3) := by decide +kernel
theorem dX7_sum_67 : decode cX7_sum 67 = .ok (.iload_n 3, 1) := by decide +kernel
theorem dX7_sum_68 : decode cX7_sum 68 = .ok (.aload_n 0, 1) := by decide +kernel
theorem dX7_sum_69 : decode cX7_sum 69 = .ok (.invokevirtual 112, 3) := by decide +kernel
theorem dX7_sum_72 : decode cX7_sum 72 = .ok (.imul, 1) := by decide +kernel
theorem dX7_sum_73 : decode cX7_sum 73 = .ok (.istore_n 3, 1) := by decide +kernel
theorem dX7_sum_74 : decode cX7_sum 74 = .ok (.goto 80, 3) := by decide +kernel
theorem dX7_sum_77 : decode cX7_sum 77 = .ok (.iload 5, 2) := by decide +kernel
theorem dX7_sum_79 : decode cX7_sum 79 = .ok (.sipush 10047, 3) := by decide +kernel
theorem dX7_sum_82 : decode cX7_sum 82 = .ok (.if_icmp .ne 22, 3) := by decide +kernel
theorem dX7_sum_85 : decode cX7_sum 85 = .ok (.aload_n 0, 1) := by decide +kernel
theorem dX7_sum_86 : decode cX7_sum 86 = .ok (.dup, 1) := by decide +kernel
theorem dX7_sum_87 : decode cX7_sum 87 = .ok (.getfield 22, 3) := by decide +kernel
theorem dX7_sum_90 : decode cX7_sum 90 = .ok (.iconst 1, 1) := by decide +kernel
theorem dX7_sum_91 : decode cX7_sum 91 = .ok (.iadd, 1) := by decide +kernel
theorem dX7_sum_92 : decode cX7_sum 92 = .ok (.putfield 22, 3) := by decide +kernel
theorem dX7_sum_95 : decode cX7_sum 95 = .ok (.aload_n 0, 1) := by decide +kernel
theorem dX7_sum_96 : decode cX7_sum 96 = .ok (.iload_n 3, 1) := by decide +kernel
theorem dX7_sum_97 : decode cX7_sum 97 = .ok (.invokevirtual 115, 3) := by decide +kernel
theorem dX7_sum_100 : decode cX7_sum 100 = .ok (.istore_n 3, 1) := by decide +kernel
theorem dX7_sum_101 : decode cX7_sum 101 = .ok (.goto 53, 3) := by decide +kernel
theorem dX7_sum_104 : decode cX7_sum 104 = .ok (.iload_n 2, 1) := by decide +kernel
theorem dX7_sum_105 : decode cX7_sum 105 = .ok (.ifCond .eq 9, 3) := by decide +kernel
theorem dX7_sum_108 : decode cX7_sum 108 = .ok (.iload_n 1, 1) := by decide +kernel
theorem dX7_sum_109 : decode cX7_sum 109 = .ok (.iload_n 3, 1) := by decide +kernel
theorem dX7_sum_110 : decode cX7_sum 110 = .ok (.isub, 1) := by decide +kernel
theorem dX7_sum_111 : decode cX7_sum 111 = .ok (.goto 6, 3) := by decide +kernel
theorem dX7_sum_114 : decode cX7_sum 114 = .ok (.iload_n 1, 1) := by decide +kernel
theorem dX7_sum_115 : decode cX7_sum 115 = .ok (.iload_n 3, 1) := by decide +kernel
theorem dX7_sum_116 : decode cX7_sum 116 = .ok (.iadd, 1) := by decide +kernel
theorem dX7_sum_117 : decode cX7_sum 117 = .ok (.istore_n 1, 1) := by decide +kernel
theorem dX7_sum_118 : decode cX7_sum 118 = .ok (.iload 6, 2) := by decide +kernel
theorem dX7_sum_120 : decode cX7_sum 120 = .ok (.ifCond .ne 5, 3) := by decide +kernel
theorem dX7_sum_123 : decode cX7_sum 123 = .ok (.iload_n 1, 1) := by decide +kernel
theorem dX7_sum_124 : decode cX7_sum 124 = .ok (.ireturn, 1) := by decide +kernel
theorem dX7_sum_125 : decode cX7_sum 125 = .ok (.aload_n 0, 1) := by decide +kernel
theorem dX7_sum_126 : decode cX7_sum 126 = .ok (.dup, 1) := by decide +kernel
theorem dX7_sum_127 : decode cX7_sum 127 = .ok (.getfield 22, 3) := by decide +kernel
theorem dX7_sum_130 : decode cX7_sum 130 = .ok (.iconst 1, 1) := by decide +kernel
theorem dX7_sum_131 : decode cX7_sum 131 = .ok (.iadd, 1) := by decide +kernel
theorem dX7_sum_132 : decode cX7_sum 132 = .ok (.putfield 22, 3) := by decide +kernel
theorem dX7_sum_135 : decode cX7_sum 135 = .ok (.iload 5, 2) := by decide +kernel
theorem dX7_sum_137 : decode cX7_sum 137 = .ok (.sipush 10045, 3) := by decide +kernel
theorem dX7_sum_140 : decode cX7_sum 140 = .ok (.if_icmp .ne 7, 3) := by decide +kernel
theorem dX7_sum_143 : decode cX7_sum 143 = .ok (.iconst 1, 1) := by decide +kernel
theorem dX7_sum_144 : decode cX7_sum 144 = .ok (.goto 4, 3) := by decide +kernel
theorem dX7_sum_147 : decode cX7_sum 147 = .ok (.iconst 0, 1) := by decide +kernel
theorem dX7_sum_148 : decode cX7_sum 148 = .ok (.istore_n 2, 1) := by decide +kernel
theorem dX7_sum_149 : decode cX7_sum 149 = .ok (.aload_n 0, 1) := by decide +kernel
theorem dX7_sum_150 : decode cX7_sum 150 = .ok (.invokevirtual 112, 3) := by decide +kernel
theorem dX7_sum_153 : decode cX7_sum 153 = .ok (.istore_n 3, 1) := by decide +kernel
theorem dX7_sum_154 : decode cX7_sum 154 = .ok (.iinc 4 1, 3) := by decide +kernel
theorem dX7_sum_157 : decode cX7_sum 157 = .ok (.goto (-145), 3) := by decide +kernel
theorem dX7_sum_160 : decode cX7_sum 160 = .ok (.iload_n 1, 1) := by decide +kernel
theorem dX7_sum_161 : decode cX7_sum 161 = .ok (.ireturn, 1) := by decide +kernel
theorem dX7_partOf_0 : decode cX7_partOf 0 = .ok (.aload_n 0, 1) := by decide +kernel
theorem dX7_partOf_1 : decode cX7_partOf 1 = .ok (.invokevirtual 50, 3) := by decide +kernel
theorem dX7_partOf_4 : decode cX7_partOf 4 = .ok (.istore_n 2, 1) := by decide +kernel
theorem dX7_partOf_5 : decode cX7_partOf 5 = .ok (.iload_n 2, 1) := by decide +kernel
theorem dX7_partOf_6 : decode cX7_partOf 6 = .ok (.ifCond .ne 10, 3) := by decide +kernel
theorem dX7_partOf_9 : decode cX7_partOf 9 = .ok (.aload_n 0, 1) := by decide +kernel
theorem dX7_partOf_10 : decode cX7_partOf 10 = .ok (.iconst 2, 1) := by decide +kernel
theorem dX7_partOf_11 : decode cX7_partOf 11 = .ok (.invokevirtual 54, 3) := by decide +kernel
theorem dX7_partOf_14 : decode cX7_partOf 14 = .ok (.iconst 0, 1) := by decide +kernel
theorem dX7_partOf_15 : decode cX7_partOf 15 = .ok (.ireturn, 1) := by decide +kernel
theorem dX7_partOf_16 : decode cX7_partOf 16 = .ok (.iload_n 2, 1) := by decide +kernel
theorem dX7_partOf_17 : decode cX7_partOf 17 = .ok (.sipush 10000, 3) := by decide +kernel
theorem dX7_partOf_20 : decode cX7_partOf 20 = .ok (.if_icmp .lt 10, 3) := by decide +kernel
theorem dX7_partOf_23 : decode cX7_partOf 23 = .ok (.aload_n 0, 1) := by decide +kernel
theorem dX7_partOf_24 : decode cX7_partOf 24 = .ok (.iconst 1, 1) := by decide +kernel
theorem dX7_partOf_25 : decode cX7_partOf 25 = .ok (.invokevirtual 54, 3) := by decide +kernel
theorem dX7_partOf_28 : decode cX7_partOf 28 = .ok (.iconst 0, 1) := by decide +kernel
theorem dX7_partOf_29 : decode cX7_partOf 29 = .ok (.ireturn, 1) := by decide +kernel
theorem dX7_partOf_30 : decode cX7_partOf 30 = .ok (.aload_n 0, 1) := by decide +kernel
theorem dX7_partOf_31 : decode cX7_partOf 31 = .ok (.dup, 1) := by decide +kernel
theorem dX7_partOf_32 : decode cX7_partOf 32 = .ok (.getfield 22, 3) := by decide +kernel
theorem dX7_partOf_35 : decode cX7_partOf 35 = .ok (.iconst 1, 1) := by decide +kernel
theorem dX7_partOf_36 : decode cX7_partOf 36 = .ok (.iadd, 1) := by decide +kernel
theorem dX7_partOf_37 : decode cX7_partOf 37 = .ok (.putfield 22, 3) := by decide +kernel
theorem dX7_partOf_40 : decode cX7_partOf 40 = .ok (.iload_n 1, 1) := by decide +kernel
theorem dX7_partOf_41 : decode cX7_partOf 41 = .ok (.iload_n 2, 1) := by decide +kernel
theorem dX7_partOf_42 : decode cX7_partOf 42 = .ok (.idiv, 1) := by decide +kernel
theorem dX7_partOf_43 : decode cX7_partOf 43 = .ok (.ireturn, 1) := by decide +kernel
theorem dX7_unit_0 : decode cX7_unit 0 = .ok (.aload_n 0, 1) := by decide +kernel
theorem dX7_unit_1 : decode cX7_unit 1 = .ok (.invokevirtual 50, 3) := by decide +kernel
theorem dX7_unit_4 : decode cX7_unit 4 = .ok (.istore_n 1, 1) := by decide +kernel
theorem dX7_unit_5 : decode cX7_unit 5 = .ok (.iload_n 1, 1) := by decide +kernel
theorem dX7_unit_6 : decode cX7_unit 6 = .ok (.sipush 10000, 3) := by decide +kernel
theorem dX7_unit_9 : decode cX7_unit 9 = .ok (.if_icmp .ge 15, 3) := by decide +kernel
theorem dX7_unit_12 : decode cX7_unit 12 = .ok (.aload_n 0, 1) := by decide +kernel
theorem dX7_unit_13 : decode cX7_unit 13 = .ok (.dup, 1) := by decide +kernel
theorem dX7_unit_14 : decode cX7_unit 14 = .ok (.getfield 22, 3) := by decide +kernel
theorem dX7_unit_17 : decode cX7_unit 17 = .ok (.iconst 1, 1) := by decide +kernel
theorem dX7_unit_18 : decode cX7_unit 18 = .ok (.iadd, 1) := by decide +kernel
theorem dX7_unit_19 : decode cX7_unit 19 = .ok (.putfield 22, 3) := by decide +kernel
theorem dX7_unit_22 : decode cX7_unit 22 = .ok (.iload_n 1, 1) := by decide +kernel
theorem dX7_unit_23 : decode cX7_unit 23 = .ok (.ireturn, 1) := by decide +kernel
theorem dX7_unit_24 : decode cX7_unit 24 = .ok (.iload_n 1, 1) := by decide +kernel
theorem dX7_unit_25 : decode cX7_unit 25 = .ok (.sipush 20005, 3) := by decide +kernel
theorem dX7_unit_28 : decode cX7_unit 28 = .ok (.isub, 1) := by decide +kernel
theorem dX7_unit_29 : decode cX7_unit 29 = .ok (.istore_n 2, 1) := by decide +kernel
theorem dX7_unit_30 : decode cX7_unit 30 = .ok (.iload_n 2, 1) := by decide +kernel
theorem dX7_unit_31 : decode cX7_unit 31 = .ok (.ifCond .lt 9, 3) := by decide +kernel
theorem dX7_unit_34 : decode cX7_unit 34 = .ok (.iload_n 2, 1) := by decide +kernel
theorem dX7_unit_35 : decode cX7_unit 35 = .ok (.bipush 7, 2) := by decide +kernel
theorem dX7_unit_37 : decode cX7_unit 37 = .ok (.if_icmp .lt 10, 3) := by decide +kernel
theorem dX7_unit_40 : decode cX7_unit 40 = .ok (.aload_n 0, 1) := by decide +kernel
theorem dX7_unit_41 : decode cX7_unit 41 = .ok (.iconst 1, 1) := by decide +kernel
theorem dX7_unit_42 : decode cX7_unit 42 = .ok (.invokevirtual 54, 3) := by decide +kernel
theorem dX7_unit_45 : decode cX7_unit 45 = .ok (.iconst 0, 1) := by decide +kernel
theorem dX7_unit_46 : decode cX7_unit 46 = .ok (.ireturn, 1) := by decide +kernel
theorem dX7_unit_47 : decode cX7_unit 47 = .ok (.aload_n 0, 1) := by decide +kernel
theorem dX7_unit_48 : decode cX7_unit 48 = .ok (.dup, 1) := by decide +kernel
theorem dX7_unit_49 : decode cX7_unit 49 = .ok (.getfield 22, 3) := by decide +kernel
theorem dX7_unit_52 : decode cX7_unit 52 = .ok (.iconst 1, 1) := by decide +kernel
theorem dX7_unit_53 : decode cX7_unit 53 = .ok (.iadd, 1) := by decide +kernel
theorem dX7_unit_54 : decode cX7_unit 54 = .ok (.putfield 22, 3) := by decide +kernel
theorem dX7_unit_57 : decode cX7_unit 57 = .ok (.aload_n 0, 1) := by decide +kernel
theorem dX7_unit_58 : decode cX7_unit 58 = .ok (.getfield 25, 3) := by decide +kernel
theorem dX7_unit_61 : decode cX7_unit 61 = .ok (.iload_n 2, 1) := by decide +kernel
theorem dX7_unit_62 : decode cX7_unit 62 = .ok (.iaload, 1) := by decide +kernel
theorem dX7_unit_63 : decode cX7_unit 63 = .ok (.ireturn, 1) := by decide +kernel
theorem dX8_init_0 : decode cX8_init 0 = .ok (.aload_n 0, 1) := by decide +kernel
theorem dX8_init_1 : decode cX8_init 1 = .ok (.invokespecial 1, 3) := by decide +kernel
theorem dX8_init_4 : decode cX8_init 4 = .ok (.aload_n 0, 1) := by decide +kernel
theorem dX8_init_5 : decode cX8_init 5 = .ok (.new 7, 3) := by decide +kernel
theorem dX8_init_8 : decode cX8_init 8 = .ok (.dup, 1) := by decide +kernel
theorem dX8_init_9 : decode cX8_init 9 = .ok (.invokespecial 9, 3) := by decide +kernel
theorem dX8_init_12 : decode cX8_init 12 = .ok (.putfield 10, 3) := by decide +kernel
theorem dX8_init_15 : decode cX8_init 15 = .ok (.aload_n 0, 1) := by decide +kernel
theorem dX8_init_16 : decode cX8_init 16 = .ok (.new 16, 3) := by decide +kernel
theorem dX8_init_19 : decode cX8_init 19 = .ok (.dup, 1) := by decide +kernel
theorem dX8_init_20 : decode cX8_init 20 = .ok (.invokespecial 18, 3) := by decide +kernel
theorem dX8_init_23 : decode cX8_init 23 = .ok (.putfield 19, 3) := by decide +kernel
theorem dX8_init_26 : decode cX8_init 26 = .ok (.aload_n 0, 1) := by decide +kernel
theorem dX8_init_27 : decode cX8_init 27 = .ok (.new 23, 3) := by decide +kernel
theorem dX8_init_30 : decode cX8_init 30 = .ok (.dup, 1) := by decide +kernel
theorem dX8_init_31 : decode cX8_init 31 = .ok (.invokespecial 25, 3) := by decide +kernel
theorem dX8_init_34 : decode cX8_init 34 = .ok (.putfield 26, 3) := by decide +kernel
theorem dX8_init_37 : decode cX8_init 37 = .ok (.aload_n 0, 1) := by decide +kernel
theorem dX8_init_38 : decode cX8_init 38 = .ok (.new 30, 3) := by decide +kernel
theorem dX8_init_41 : decode cX8_init 41 = .ok (.dup, 1) := by decide +kernel
theorem dX8_init_42 : decode cX8_init 42 = .ok (.invokespecial 32, 3) := by decide +kernel
theorem dX8_init_45 : decode cX8_init 45 = .ok (.putfield 33, 3) := by decide +kernel
theorem dX8_init_48 : decode cX8_init 48 = .ok (.aload_n 0, 1) := by decide +kernel
theorem dX8_init_49 : decode cX8_init 49 = .ok (.new 37, 3) := by decide +kernel
theorem dX8_init_52 : decode cX8_init 52 = .ok (.dup, 1) := by decide +kernel
theorem dX8_init_53 : decode cX8_init 53 = .ok (.invokespecial 39, 3) := by decide +kernel
theorem dX8_init_56 : decode cX8_init 56 = .ok (.putfield 40, 3) := by decide +kernel
theorem dX8_init_59 : decode cX8_init 59 = .ok (.return_, 1) := by decide +kernel
theorem dX8_begin_0 : decode cX8_begin 0 = .ok (.aload_n 0, 1) := by decide +kernel
theorem dX8_begin_1 : decode cX8_begin 1 = .ok (.getfield 10, 3) := by decide +kernel
theorem dX8_begin_4 : decode cX8_begin 4 = .ok (.iload_n 1, 1) := by decide +kernel
theorem dX8_begin_5 : decode cX8_begin 5 = .ok (.invokevirtual 44, 3) := by decide +kernel
theorem dX8_begin_8 : decode cX8_begin 8 = .ok (.aload_n 0, 1) := by decide +kernel
theorem dX8_begin_9 : decode cX8_begin 9 = .ok (.getfield 19, 3) := by decide +kernel
theorem dX8_begin_12 : decode cX8_begin 12 = .ok (.invokevirtual 48, 3) := by decide +kernel
theorem dX8_begin_15 : decode cX8_begin 15 = .ok (.aload_n 0, 1) := by decide +kernel
theorem dX8_begin_16 : decode cX8_begin 16 = .ok (.getfield 26, 3) := by decide +kernel
theorem dX8_begin_19 : decode cX8_begin 19 = .ok (.invokevirtual 50, 3) := by decide +kernel
theorem dX8_begin_22 : decode cX8_begin 22 = .ok (.aload_n 0, 1) := by decide +kernel
theorem dX8_begin_23 : decode cX8_begin 23 = .ok (.getfield 33, 3) := by decide +kernel
theorem dX8_begin_26 : decode cX8_begin 26 = .ok (.invokevirtual 51, 3) := by decide +kernel
theorem dX8_begin_29 : decode cX8_begin 29 = .ok (.aload_n 0, 1) := by decide +kernel
theorem dX8_begin_30 : decode cX8_begin 30 = .ok (.getfield 40, 3) := by decide +kernel
theorem dX8_begin_33 : decode cX8_begin 33 = .ok (.invokevirtual 52, 3) := by decide +kernel
theorem dX8_begin_36 : decode cX8_begin 36 = .ok (.return_, 1) := by decide +kernel
theorem dX8_become_0 : decode cX8_become 0 = .ok (.aload_n 0, 1) := by decide +kernel
theorem dX8_become_1 : decode cX8_become 1 = .ok (.getfield 10, 3) := by decide +kernel
theorem dX8_become_4 : decode cX8_become 4 = .ok (.aload_n 1, 1) := by decide +kernel
theorem dX8_become_5 : decode cX8_become 5 = .ok (.getfield 10, 3) := by decide +kernel
theorem dX8_become_8 : decode cX8_become 8 = .ok (.invokevirtual 53, 3) := by decide +kernel
theorem dX8_become_11 : decode cX8_become 11 = .ok (.aload_n 0, 1) := by decide +kernel
theorem dX8_become_12 : decode cX8_become 12 = .ok (.getfield 19, 3) := by decide +kernel
theorem dX8_become_15 : decode cX8_become 15 = .ok (.aload_n 1, 1) := by decide +kernel
theorem dX8_become_16 : decode cX8_become 16 = .ok (.getfield 19, 3) := by decide +kernel
theorem dX8_become_19 : decode cX8_become 19 = .ok (.invokevirtual 57, 3) := by decide +kernel
theorem dX8_become_22 : decode cX8_become 22 = .ok (.aload_n 0, 1) := by decide +kernel
theorem dX8_become_23 : decode cX8_become 23 = .ok (.getfield 26, 3) := by decide +kernel
theorem dX8_become_26 : decode cX8_become 26 = .ok (.aload_n 1, 1) := by decide +kernel
theorem dX8_become_27 : decode cX8_become 27 = .ok (.getfield 26, 3) := by decide +kernel
theorem dX8_become_30 : decode cX8_become 30 = .ok (.invokevirtual 60, 3) := by decide +kernel
theorem dX8_become_33 : decode cX8_become 33 = .ok (.aload_n 0, 1) := by decide +kernel
theorem dX8_become_34 : decode cX8_become 34 = .ok (.getfield 33, 3) := by decide +kernel
theorem dX8_become_37 : decode cX8_become 37 = .ok (.aload_n 1, 1) := by decide +kernel
theorem dX8_become_38 : decode cX8_become 38 = .ok (.getfield 33, 3) := by decide +kernel
theorem dX8_become_41 : decode cX8_become 41 = .ok (.invokevirtual 63, 3) := by decide +kernel
theorem dX8_become_44 : decode cX8_become 44 = .ok (.aload_n 0, 1) := by decide +kernel
theorem dX8_become_45 : decode cX8_become 45 = .ok (.getfield 40, 3) := by decide +kernel
theorem dX8_become_48 : decode cX8_become 48 = .ok (.aload_n 1, 1) := by decide +kernel
theorem dX8_become_49 : decode cX8_become 49 = .ok (.getfield 40, 3) := by decide +kernel
theorem dX8_become_52 : decode cX8_become 52 = .ok (.invokevirtual 66, 3) := by decide +kernel
theorem dX8_become_55 : decode cX8_become 55 = .ok (.return_, 1) := by decide +kernel
theorem dX9_init_0 : decode cX9_init 0 = .ok (.aload_n 0, 1) := by decide +kernel
theorem dX9_init_1 : decode cX9_init 1 = .ok (.invokespecial 1, 3) := by decide +kernel
theorem dX9_init_4 : decode cX9_init 4 = .ok (.aload_n 0, 1) := by decide +kernel
theorem dX9_init_5 : decode cX9_init 5 = .ok (.new 7, 3) := by decide +kernel
theorem dX9_init_8 : decode cX9_init 8 = .ok (.dup, 1) := by decide +kernel
theorem dX9_init_9 : decode cX9_init 9 = .ok (.invokespecial 9, 3) := by decide +kernel
theorem dX9_init_12 : decode cX9_init 12 = .ok (.putfield 10, 3) := by decide +kernel
theorem dX9_init_15 : decode cX9_init 15 = .ok (.aload_n 0, 1) := by decide +kernel
theorem dX9_init_16 : decode cX9_init 16 = .ok (.new 7, 3) := by decide +kernel
theorem dX9_init_19 : decode cX9_init 19 = .ok (.dup, 1) := by decide +kernel
theorem dX9_init_20 : decode cX9_init 20 = .ok (.invokespecial 9, 3) := by decide +kernel
theorem dX9_init_23 : decode cX9_init 23 = .ok (.putfield 16, 3) := by decide +kernel
theorem dX9_init_26 : decode cX9_init 26 = .ok (.aload_n 0, 1) := by decide +kernel
theorem dX9_init_27 : decode cX9_init 27 = .ok (.iconst 0, 1) := by decide +kernel
theorem dX9_init_28 : decode cX9_init 28 = .ok (.putfield 19, 3) := by decide +kernel
theorem dX9_init_31 : decode cX9_init 31 = .ok (.aload_n 0, 1) := by decide +kernel
theorem dX9_init_32 : decode cX9_init 32 = .ok (.new 23, 3) := by decide +kernel
theorem dX9_init_35 : decode cX9_init 35 = .ok (.dup, 1) := by decide +kernel
theorem dX9_init_36 : decode cX9_init 36 = .ok (.invokespecial 25, 3) := by decide +kernel
theorem dX9_init_39 : decode cX9_init 39 = .ok (.putfield 26, 3) := by decide +kernel
theorem dX9_init_42 : decode cX9_init 42 = .ok (.aload_n 0, 1) := by decide +kernel
theorem dX9_init_43 : decode cX9_init 43 = .ok (.sipush 400, 3) := by decide +kernel
theorem dX9_init_46 : decode cX9_init 46 = .ok (.newarray .byte, 2) := by decide +kernel
theorem dX9_init_48 : decode cX9_init 48 = .ok (.putfield 30, 3) := by decide +kernel
theorem dX9_init_51 : decode cX9_init 51 = .ok (.aload_n 0, 1) := by decide +kernel
theorem dX9_init_52 : decode cX9_init 52 = .ok (.iconst 0, 1) := by decide +kernel
theorem dX9_init_53 : decode cX9_init 53 = .ok (.putfield 34, 3) := by decide +kernel
theorem dX9_init_56 : decode cX9_init 56 = .ok (.aload_n 0, 1) := by decide +kernel
theorem dX9_init_57 : decode cX9_init 57 = .ok (.new 38, 3) := by decide +kernel
theorem dX9_init_60 : decode cX9_init 60 = .ok (.dup, 1) := by decide +kernel
theorem dX9_init_61 : decode cX9_init 61 = .ok (.invokespecial 40, 3) := by decide +kernel
theorem dX9_init_64 : decode cX9_init 64 = .ok (.putfield 41, 3) := by decide +kernel
theorem dX9_init_67 : decode cX9_init 67 = .ok (.aload_n 0, 1) := by decide +kernel
theorem dX9_init_68 : decode cX9_init 68 = .ok (.iconst 0, 1) := by decide +kernel
theorem dX9_init_69 : decode cX9_init 69 = .ok (.putfield 45, 3) := by decide +kernel
theorem dX9_init_72 : decode cX9_init 72 = .ok (.aload_n 0, 1) := by decide +kernel
theorem dX9_init_73 : decode cX9_init 73 = .ok (.iconst (-1), 1) := by decide +kernel
theorem dX9_init_74 : decode cX9_init 74 = .ok (.putfield 48, 3) := by decide +kernel
theorem dX9_init_77 : decode cX9_init 77 = .ok (.aload_n 0, 1) := by decide +kernel
theorem dX9_init_78 : decode cX9_init 78 = .ok (.new 51, 3) := by decide +kernel
theorem dX9_init_81 : decode cX9_init 81 = .ok (.dup, 1) := by decide +kernel
theorem dX9_init_82 : decode cX9_init 82 = .ok (.invokespecial 53, 3) := by decide +kernel
theorem dX9_init_85 : decode cX9_init 85 = .ok (.putfield 54, 3) := by decide +kernel
theorem dX9_init_88 : decode cX9_init 88 = .ok (.aload_n 0, 1) := by decide +kernel
theorem dX9_init_89 : decode cX9_init 89 = .ok (.new 58, 3) := by decide +kernel
theorem dX9_init_92 : decode cX9_init 92 = .ok (.dup, 1) := by decide +kernel
theorem dX9_init_93 : decode cX9_init 93 = .ok (.invokespecial 60, 3) := by decide +kernel
theorem dX9_init_96 : decode cX9_init 96 = .ok (.putfield 61, 3) := by decide +kernel
theorem dX9_init_99 : decode cX9_init 99 = .ok (.aload_n 0, 1) := by decide +kernel
theorem dX9_init_100 : decode cX9_init 100 = .ok (.new 65, 3) := by decide +kernel
theorem dX9_init_103 : decode cX9_init 103 = .ok (.dup, 1) := by decide +kernel
theorem dX9_init_104 : decode cX9_init 104 = .ok (.invokespecial 67, 3) := by decide +kernel
theorem dX9_init_107 : decode cX9_init 107 = .ok (.putfield 68, 3) := by decide +kernel
theorem dX9_init_110 : decode cX9_init 110 = .ok (.aload_n 0, 1) := by decide +kernel
theorem dX9_init_111 : decode cX9_init 111 = .ok (.getfield 10, 3) := by decide +kernel
theorem dX9_init_114 : decode cX9_init 114 = .ok (.iconst 5, 1) := by decide +kernel
theorem dX9_init_115 : decode cX9_init 115 = .ok (.invokevirtual 72, 3) := by decide +kernel
theorem dX9_init_118 : decode cX9_init 118 = .ok (.return_, 1) := by decide +kernel
theorem dX9_columns_0 : decode cX9_columns 0 = .ok (.iload_n 1, 1) := by decide +kernel
theorem dX9_columns_1 : decode cX9_columns 1 = .ok (.iconst 2, 1) := by decide +kernel
theorem dX9_columns_2 : decode cX9_columns 2 = .ok (.if_icmp .lt 9, 3) := by decide +kernel
theorem dX9_columns_5 : decode cX9_columns 5 = .ok (.iload_n 1, 1) := by decide +kernel
theorem dX9_columns_6 : decode cX9_columns 6 = .ok (.bipush 8, 2) := by decide +kernel
theorem dX9_columns_8 : decode cX9_columns 8 = .ok (.if_icmp .le 5, 3) := by decide +kernel
theorem dX9_columns_11 : decode cX9_columns 11 = .ok (.iconst 0, 1) := by decide +kernel
theorem dX9_columns_12 : decode cX9_columns 12 = .ok (.ireturn, 1) := by decide +kernel
theorem dX9_columns_13 : decode cX9_columns 13 = .ok (.aload_n 0, 1) := by decide +kernel
theorem dX9_columns_14 : decode cX9_columns 14 = .ok (.getfield 10, 3) := by decide +kernel
theorem dX9_columns_17 : decode cX9_columns 17 = .ok (.iload_n 1, 1) := by decide +kernel
theorem dX9_columns_18 : decode cX9_columns 18 = .ok (.invokevirtual 72, 3) := by decide +kernel
theorem dX9_columns_21 : decode cX9_columns 21 = .ok (.aload_n 0, 1) := by decide +kernel
theorem dX9_columns_22 : decode cX9_columns 22 = .ok (.getfield 26, 3) := by decide +kernel
theorem dX9_columns_25 : decode cX9_columns 25 = .ok (.invokevirtual 76, 3) := by decide +kernel
theorem dX9_columns_28 : decode cX9_columns 28 = .ok (.iconst 1, 1) := by decide +kernel
theorem dX9_columns_29 : decode cX9_columns 29 = .ok (.ireturn, 1) := by decide +kernel
