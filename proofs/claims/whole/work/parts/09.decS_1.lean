theorem dX4_read_95 : decode cX4_read 95 = .ok (.putfield 25, 3) := by decide +kernel
theorem dX4_read_98 : decode cX4_read 98 = .ok (.aload_n 1, 1) := by decide +kernel
theorem dX4_read_99 : decode cX4_read 99 = .ok (.iload 4, 2) := by decide +kernel
theorem dX4_read_101 : decode cX4_read 101 = .ok (.aload_n 1, 1) := by decide +kernel
theorem dX4_read_102 : decode cX4_read 102 = .ok (.invokevirtual 62, 3) := by decide +kernel
theorem dX4_read_105 : decode cX4_read 105 = .ok (.iconst 1, 1) := by decide +kernel
theorem dX4_read_106 : decode cX4_read 106 = .ok (.isub, 1) := by decide +kernel
theorem dX4_read_107 : decode cX4_read 107 = .ok (.invokevirtual 66, 3) := by decide +kernel
theorem dX4_read_110 : decode cX4_read 110 = .ok (.istore_n 2, 1) := by decide +kernel
theorem dX4_read_111 : decode cX4_read 111 = .ok (.iinc 3 1, 3) := by decide +kernel
theorem dX4_read_114 : decode cX4_read 114 = .ok (.goto (-87), 3) := by decide +kernel
theorem dX4_read_117 : decode cX4_read 117 = .ok (.return_, 1) := by decide +kernel
theorem dX4_fits_0 : decode cX4_fits 0 = .ok (.aload_n 0, 1) := by decide +kernel
theorem dX4_fits_1 : decode cX4_fits 1 = .ok (.getfield 29, 3) := by decide +kernel
theorem dX4_fits_4 : decode cX4_fits 4 = .ok (.ifCond .ne 14, 3) := by decide +kernel
theorem dX4_fits_7 : decode cX4_fits 7 = .ok (.aload_n 0, 1) := by decide +kernel
theorem dX4_fits_8 : decode cX4_fits 8 = .ok (.getfield 25, 3) := by decide +kernel
theorem dX4_fits_11 : decode cX4_fits 11 = .ok (.ifCond .le 7, 3) := by decide +kernel
theorem dX4_fits_14 : decode cX4_fits 14 = .ok (.iconst 1, 1) := by decide +kernel
theorem dX4_fits_15 : decode cX4_fits 15 = .ok (.goto 4, 3) := by decide +kernel
theorem dX4_fits_18 : decode cX4_fits 18 = .ok (.iconst 0, 1) := by decide +kernel
theorem dX4_fits_19 : decode cX4_fits 19 = .ok (.ireturn, 1) := by decide +kernel
theorem dX4_letterAt_0 : decode cX4_letterAt 0 = .ok (.iload_n 1, 1) := by decide +kernel
theorem dX4_letterAt_1 : decode cX4_letterAt 1 = .ok (.ifCond .lt 20, 3) := by decide +kernel
theorem dX4_letterAt_4 : decode cX4_letterAt 4 = .ok (.iload_n 1, 1) := by decide +kernel
theorem dX4_letterAt_5 : decode cX4_letterAt 5 = .ok (.aload_n 0, 1) := by decide +kernel
theorem dX4_letterAt_6 : decode cX4_letterAt 6 = .ok (.getfield 25, 3) := by decide +kernel
theorem dX4_letterAt_9 : decode cX4_letterAt 9 = .ok (.if_icmp .ge 12, 3) := by decide +kernel
theorem dX4_letterAt_12 : decode cX4_letterAt 12 = .ok (.aload_n 0, 1) := by decide +kernel
theorem dX4_letterAt_13 : decode cX4_letterAt 13 = .ok (.getfield 18, 3) := by decide +kernel
theorem dX4_letterAt_16 : decode cX4_letterAt 16 = .ok (.iload_n 1, 1) := by decide +kernel
theorem dX4_letterAt_17 : decode cX4_letterAt 17 = .ok (.iaload, 1) := by decide +kernel
theorem dX4_letterAt_18 : decode cX4_letterAt 18 = .ok (.goto 5, 3) := by decide +kernel
theorem dX4_letterAt_21 : decode cX4_letterAt 21 = .ok (.bipush (-9), 2) := by decide +kernel
theorem dX4_letterAt_23 : decode cX4_letterAt 23 = .ok (.ireturn, 1) := by decide +kernel
theorem dX4_startAt_0 : decode cX4_startAt 0 = .ok (.iload_n 1, 1) := by decide +kernel
theorem dX4_startAt_1 : decode cX4_startAt 1 = .ok (.ifCond .lt 20, 3) := by decide +kernel
theorem dX4_startAt_4 : decode cX4_startAt 4 = .ok (.iload_n 1, 1) := by decide +kernel
theorem dX4_startAt_5 : decode cX4_startAt 5 = .ok (.aload_n 0, 1) := by decide +kernel
theorem dX4_startAt_6 : decode cX4_startAt 6 = .ok (.getfield 25, 3) := by decide +kernel
theorem dX4_startAt_9 : decode cX4_startAt 9 = .ok (.if_icmp .ge 12, 3) := by decide +kernel
theorem dX4_startAt_12 : decode cX4_startAt 12 = .ok (.aload_n 0, 1) := by decide +kernel
theorem dX4_startAt_13 : decode cX4_startAt 13 = .ok (.getfield 22, 3) := by decide +kernel
theorem dX4_startAt_16 : decode cX4_startAt 16 = .ok (.iload_n 1, 1) := by decide +kernel
theorem dX4_startAt_17 : decode cX4_startAt 17 = .ok (.iaload, 1) := by decide +kernel
theorem dX4_startAt_18 : decode cX4_startAt 18 = .ok (.goto 5, 3) := by decide +kernel
theorem dX4_startAt_21 : decode cX4_startAt 21 = .ok (.bipush (-9), 2) := by decide +kernel
theorem dX4_startAt_23 : decode cX4_startAt 23 = .ok (.ireturn, 1) := by decide +kernel
theorem dX4_nextStart_0 : decode cX4_nextStart 0 = .ok (.aload_n 0, 1) := by decide +kernel
theorem dX4_nextStart_1 : decode cX4_nextStart 1 = .ok (.getfield 12, 3) := by decide +kernel
theorem dX4_nextStart_4 : decode cX4_nextStart 4 = .ok (.iload_n 1, 1) := by decide +kernel
theorem dX4_nextStart_5 : decode cX4_nextStart 5 = .ok (.invokevirtual 69, 3) := by decide +kernel
theorem dX4_nextStart_8 : decode cX4_nextStart 8 = .ok (.istore_n 3, 1) := by decide +kernel
theorem dX4_nextStart_9 : decode cX4_nextStart 9 = .ok (.aload_n 0, 1) := by decide +kernel
theorem dX4_nextStart_10 : decode cX4_nextStart 10 = .ok (.getfield 41, 3) := by decide +kernel
theorem dX4_nextStart_13 : decode cX4_nextStart 13 = .ok (.iload_n 3, 1) := by decide +kernel
theorem dX4_nextStart_14 : decode cX4_nextStart 14 = .ok (.invokevirtual 73, 3) := by decide +kernel
theorem dX4_nextStart_17 : decode cX4_nextStart 17 = .ok (.iload_n 2, 1) := by decide +kernel
theorem dX4_nextStart_18 : decode cX4_nextStart 18 = .ok (.if_icmp .ne 14, 3) := by decide +kernel
theorem dX4_nextStart_21 : decode cX4_nextStart 21 = .ok (.aload_n 0, 1) := by decide +kernel
theorem dX4_nextStart_22 : decode cX4_nextStart 22 = .ok (.getfield 12, 3) := by decide +kernel
theorem dX4_nextStart_25 : decode cX4_nextStart 25 = .ok (.iload_n 3, 1) := by decide +kernel
theorem dX4_nextStart_26 : decode cX4_nextStart 26 = .ok (.invokevirtual 69, 3) := by decide +kernel
theorem dX4_nextStart_29 : decode cX4_nextStart 29 = .ok (.goto 4, 3) := by decide +kernel
theorem dX4_nextStart_32 : decode cX4_nextStart 32 = .ok (.iload_n 3, 1) := by decide +kernel
theorem dX4_nextStart_33 : decode cX4_nextStart 33 = .ok (.ireturn, 1) := by decide +kernel
theorem dX4_readFrame_0 : decode cX4_readFrame 0 = .ok (.iconst 0, 1) := by decide +kernel
theorem dX4_readFrame_1 : decode cX4_readFrame 1 = .ok (.istore_n 3, 1) := by decide +kernel
theorem dX4_readFrame_2 : decode cX4_readFrame 2 = .ok (.iconst 0, 1) := by decide +kernel
theorem dX4_readFrame_3 : decode cX4_readFrame 3 = .ok (.istore 4, 2) := by decide +kernel
theorem dX4_readFrame_5 : decode cX4_readFrame 5 = .ok (.aload_n 1, 1) := by decide +kernel
theorem dX4_readFrame_6 : decode cX4_readFrame 6 = .ok (.invokevirtual 62, 3) := by decide +kernel
theorem dX4_readFrame_9 : decode cX4_readFrame 9 = .ok (.istore 5, 2) := by decide +kernel
theorem dX4_readFrame_11 : decode cX4_readFrame 11 = .ok (.iconst 0, 1) := by decide +kernel
theorem dX4_readFrame_12 : decode cX4_readFrame 12 = .ok (.istore 6, 2) := by decide +kernel
theorem dX4_readFrame_14 : decode cX4_readFrame 14 = .ok (.iload 6, 2) := by decide +kernel
theorem dX4_readFrame_16 : decode cX4_readFrame 16 = .ok (.iload 5, 2) := by decide +kernel
theorem dX4_readFrame_18 : decode cX4_readFrame 18 = .ok (.if_icmp .ge 133, 3) := by decide +kernel
theorem dX4_readFrame_21 : decode cX4_readFrame 21 = .ok (.aload_n 1, 1) := by decide +kernel
theorem dX4_readFrame_22 : decode cX4_readFrame 22 = .ok (.iload_n 2, 1) := by decide +kernel
theorem dX4_readFrame_23 : decode cX4_readFrame 23 = .ok (.iload 6, 2) := by decide +kernel
theorem dX4_readFrame_25 : decode cX4_readFrame 25 = .ok (.invokevirtual 66, 3) := by decide +kernel
theorem dX4_readFrame_28 : decode cX4_readFrame 28 = .ok (.istore 7, 2) := by decide +kernel
theorem dX4_readFrame_30 : decode cX4_readFrame 30 = .ok (.aload_n 0, 1) := by decide +kernel
theorem dX4_readFrame_31 : decode cX4_readFrame 31 = .ok (.getfield 41, 3) := by decide +kernel
theorem dX4_readFrame_34 : decode cX4_readFrame 34 = .ok (.iload 7, 2) := by decide +kernel
theorem dX4_readFrame_36 : decode cX4_readFrame 36 = .ok (.invokevirtual 73, 3) := by decide +kernel
theorem dX4_readFrame_39 : decode cX4_readFrame 39 = .ok (.aload_n 1, 1) := by decide +kernel
theorem dX4_readFrame_40 : decode cX4_readFrame 40 = .ok (.getfield 49, 3) := by decide +kernel
theorem dX4_readFrame_43 : decode cX4_readFrame 43 = .ok (.if_icmp .ne 7, 3) := by decide +kernel
theorem dX4_readFrame_46 : decode cX4_readFrame 46 = .ok (.iconst 1, 1) := by decide +kernel
theorem dX4_readFrame_47 : decode cX4_readFrame 47 = .ok (.goto 4, 3) := by decide +kernel
theorem dX4_readFrame_50 : decode cX4_readFrame 50 = .ok (.iconst 0, 1) := by decide +kernel
theorem dX4_readFrame_51 : decode cX4_readFrame 51 = .ok (.istore 8, 2) := by decide +kernel
theorem dX4_readFrame_53 : decode cX4_readFrame 53 = .ok (.aload_n 0, 1) := by decide +kernel
theorem dX4_readFrame_54 : decode cX4_readFrame 54 = .ok (.aload_n 0, 1) := by decide +kernel
theorem dX4_readFrame_55 : decode cX4_readFrame 55 = .ok (.getfield 41, 3) := by decide +kernel
theorem dX4_readFrame_58 : decode cX4_readFrame 58 = .ok (.iload 7, 2) := by decide +kernel
theorem dX4_readFrame_60 : decode cX4_readFrame 60 = .ok (.invokevirtual 76, 3) := by decide +kernel
theorem dX4_readFrame_63 : decode cX4_readFrame 63 = .ok (.ifCond .eq 16, 3) := by decide +kernel
theorem dX4_readFrame_66 : decode cX4_readFrame 66 = .ok (.aload_n 1, 1) := by decide +kernel
theorem dX4_readFrame_67 : decode cX4_readFrame 67 = .ok (.iload 6, 2) := by decide +kernel
theorem dX4_readFrame_69 : decode cX4_readFrame 69 = .ok (.iload 8, 2) := by decide +kernel
theorem dX4_readFrame_71 : decode cX4_readFrame 71 = .ok (.iload 4, 2) := by decide +kernel
theorem dX4_readFrame_73 : decode cX4_readFrame 73 = .ok (.invokestatic 80, 3) := by decide +kernel
theorem dX4_readFrame_76 : decode cX4_readFrame 76 = .ok (.goto 4, 3) := by decide +kernel
theorem dX4_readFrame_79 : decode cX4_readFrame 79 = .ok (.iconst 4, 1) := by decide +kernel
theorem dX4_readFrame_80 : decode cX4_readFrame 80 = .ok (.putfield 29, 3) := by decide +kernel
theorem dX4_readFrame_83 : decode cX4_readFrame 83 = .ok (.aload_n 0, 1) := by decide +kernel
theorem dX4_readFrame_84 : decode cX4_readFrame 84 = .ok (.getfield 29, 3) := by decide +kernel
theorem dX4_readFrame_87 : decode cX4_readFrame 87 = .ok (.ifCond .eq 6, 3) := by decide +kernel
theorem dX4_readFrame_90 : decode cX4_readFrame 90 = .ok (.bipush (-9), 2) := by decide +kernel
theorem dX4_readFrame_92 : decode cX4_readFrame 92 = .ok (.ireturn, 1) := by decide +kernel
theorem dX4_readFrame_93 : decode cX4_readFrame 93 = .ok (.iload 6, 2) := by decide +kernel
theorem dX4_readFrame_95 : decode cX4_readFrame 95 = .ok (.iconst 1, 1) := by decide +kernel
theorem dX4_readFrame_96 : decode cX4_readFrame 96 = .ok (.if_icmp .lt 29, 3) := by decide +kernel
theorem dX4_readFrame_99 : decode cX4_readFrame 99 = .ok (.iload 6, 2) := by decide +kernel
theorem dX4_readFrame_101 : decode cX4_readFrame 101 = .ok (.aload_n 1, 1) := by decide +kernel
theorem dX4_readFrame_102 : decode cX4_readFrame 102 = .ok (.getfield 84, 3) := by decide +kernel
theorem dX4_readFrame_105 : decode cX4_readFrame 105 = .ok (.if_icmp .gt 20, 3) := by decide +kernel
theorem dX4_readFrame_108 : decode cX4_readFrame 108 = .ok (.iload_n 3, 1) := by decide +kernel
theorem dX4_readFrame_109 : decode cX4_readFrame 109 = .ok (.iload 8, 2) := by decide +kernel
theorem dX4_readFrame_111 : decode cX4_readFrame 111 = .ok (.iload 6, 2) := by decide +kernel
theorem dX4_readFrame_113 : decode cX4_readFrame 113 = .ok (.iconst 1, 1) := by decide +kernel
theorem dX4_readFrame_114 : decode cX4_readFrame 114 = .ok (.isub, 1) := by decide +kernel
theorem dX4_readFrame_115 : decode cX4_readFrame 115 = .ok (.ishl, 1) := by decide +kernel
theorem dX4_readFrame_116 : decode cX4_readFrame 116 = .ok (.ior, 1) := by decide +kernel
theorem dX4_readFrame_117 : decode cX4_readFrame 117 = .ok (.istore_n 3, 1) := by decide +kernel
theorem dX4_readFrame_118 : decode cX4_readFrame 118 = .ok (.iload 4, 2) := by decide +kernel
theorem dX4_readFrame_120 : decode cX4_readFrame 120 = .ok (.iload 8, 2) := by decide +kernel
theorem dX4_readFrame_122 : decode cX4_readFrame 122 = .ok (.iadd, 1) := by decide +kernel
theorem dX4_readFrame_123 : decode cX4_readFrame 123 = .ok (.istore 4, 2) := by decide +kernel
theorem dX4_readFrame_125 : decode cX4_readFrame 125 = .ok (.aload_n 0, 1) := by decide +kernel
theorem dX4_readFrame_126 : decode cX4_readFrame 126 = .ok (.aload_n 0, 1) := by decide +kernel
theorem dX4_readFrame_127 : decode cX4_readFrame 127 = .ok (.getfield 35, 3) := by decide +kernel
theorem dX4_readFrame_130 : decode cX4_readFrame 130 = .ok (.aload_n 0, 1) := by decide +kernel
theorem dX4_readFrame_131 : decode cX4_readFrame 131 = .ok (.getfield 12, 3) := by decide +kernel
theorem dX4_readFrame_134 : decode cX4_readFrame 134 = .ok (.iload 7, 2) := by decide +kernel
theorem dX4_readFrame_136 : decode cX4_readFrame 136 = .ok (.invokevirtual 87, 3) := by decide +kernel
theorem dX4_readFrame_139 : decode cX4_readFrame 139 = .ok (.invokestatic 90, 3) := by decide +kernel
theorem dX4_readFrame_142 : decode cX4_readFrame 142 = .ok (.putfield 35, 3) := by decide +kernel
theorem dX4_readFrame_145 : decode cX4_readFrame 145 = .ok (.iinc 6 1, 3) := by decide +kernel
theorem dX4_readFrame_148 : decode cX4_readFrame 148 = .ok (.goto (-134), 3) := by decide +kernel
theorem dX4_readFrame_151 : decode cX4_readFrame 151 = .ok (.iload_n 3, 1) := by decide +kernel
theorem dX4_readFrame_152 : decode cX4_readFrame 152 = .ok (.ireturn, 1) := by decide +kernel
theorem dX4_failureOfBit_0 : decode cX4_failureOfBit 0 = .ok (.iload_n 1, 1) := by decide +kernel
theorem dX4_failureOfBit_1 : decode cX4_failureOfBit 1 = .ok (.ifCond .ne 14, 3) := by decide +kernel
theorem dX4_failureOfBit_4 : decode cX4_failureOfBit 4 = .ok (.iload_n 2, 1) := by decide +kernel
theorem dX4_failureOfBit_5 : decode cX4_failureOfBit 5 = .ok (.iconst 1, 1) := by decide +kernel
theorem dX4_failureOfBit_6 : decode cX4_failureOfBit 6 = .ok (.if_icmp .ne 7, 3) := by decide +kernel
theorem dX4_failureOfBit_9 : decode cX4_failureOfBit 9 = .ok (.iconst 1, 1) := by decide +kernel
theorem dX4_failureOfBit_10 : decode cX4_failureOfBit 10 = .ok (.goto 4, 3) := by decide +kernel
theorem dX4_failureOfBit_13 : decode cX4_failureOfBit 13 = .ok (.iconst 0, 1) := by decide +kernel
theorem dX4_failureOfBit_14 : decode cX4_failureOfBit 14 = .ok (.ireturn, 1) := by decide +kernel
theorem dX4_failureOfBit_15 : decode cX4_failureOfBit 15 = .ok (.iload_n 1, 1) := by decide +kernel
theorem dX4_failureOfBit_16 : decode cX4_failureOfBit 16 = .ok (.aload_n 0, 1) := by decide +kernel
theorem dX4_failureOfBit_17 : decode cX4_failureOfBit 17 = .ok (.getfield 84, 3) := by decide +kernel
theorem dX4_failureOfBit_20 : decode cX4_failureOfBit 20 = .ok (.if_icmp .gt 5, 3) := by decide +kernel
theorem dX4_failureOfBit_23 : decode cX4_failureOfBit 23 = .ok (.iconst 0, 1) := by decide +kernel
theorem dX4_failureOfBit_24 : decode cX4_failureOfBit 24 = .ok (.ireturn, 1) := by decide +kernel
theorem dX4_failureOfBit_25 : decode cX4_failureOfBit 25 = .ok (.iload_n 1, 1) := by decide +kernel
theorem dX4_failureOfBit_26 : decode cX4_failureOfBit 26 = .ok (.aload_n 0, 1) := by decide +kernel
theorem dX4_failureOfBit_27 : decode cX4_failureOfBit 27 = .ok (.getfield 84, 3) := by decide +kernel
theorem dX4_failureOfBit_30 : decode cX4_failureOfBit 30 = .ok (.iconst 1, 1) := by decide +kernel
theorem dX4_failureOfBit_31 : decode cX4_failureOfBit 31 = .ok (.iadd, 1) := by decide +kernel
theorem dX4_failureOfBit_32 : decode cX4_failureOfBit 32 = .ok (.if_icmp .ne 30, 3) := by decide +kernel
theorem dX4_failureOfBit_35 : decode cX4_failureOfBit 35 = .ok (.aload_n 0, 1) := by decide +kernel
theorem dX4_failureOfBit_36 : decode cX4_failureOfBit 36 = .ok (.getfield 95, 3) := by decide +kernel
theorem dX4_failureOfBit_39 : decode cX4_failureOfBit 39 = .ok (.ifCond .eq 23, 3) := by decide +kernel
theorem dX4_failureOfBit_42 : decode cX4_failureOfBit 42 = .ok (.iload_n 3, 1) := by decide +kernel
theorem dX4_failureOfBit_43 : decode cX4_failureOfBit 43 = .ok (.iload_n 2, 1) := by decide +kernel
theorem dX4_failureOfBit_44 : decode cX4_failureOfBit 44 = .ok (.iadd, 1) := by decide +kernel
theorem dX4_failureOfBit_45 : decode cX4_failureOfBit 45 = .ok (.iconst 2, 1) := by decide +kernel
theorem dX4_failureOfBit_46 : decode cX4_failureOfBit 46 = .ok (.irem, 1) := by decide +kernel
theorem dX4_failureOfBit_47 : decode cX4_failureOfBit 47 = .ok (.aload_n 0, 1) := by decide +kernel
theorem dX4_failureOfBit_48 : decode cX4_failureOfBit 48 = .ok (.getfield 95, 3) := by decide +kernel
theorem dX4_failureOfBit_51 : decode cX4_failureOfBit 51 = .ok (.iconst 1, 1) := by decide +kernel
theorem dX4_failureOfBit_52 : decode cX4_failureOfBit 52 = .ok (.isub, 1) := by decide +kernel
theorem dX4_failureOfBit_53 : decode cX4_failureOfBit 53 = .ok (.if_icmp .ne 7, 3) := by decide +kernel
theorem dX4_failureOfBit_56 : decode cX4_failureOfBit 56 = .ok (.iconst 0, 1) := by decide +kernel
theorem dX4_failureOfBit_57 : decode cX4_failureOfBit 57 = .ok (.goto 4, 3) := by decide +kernel
theorem dX4_failureOfBit_60 : decode cX4_failureOfBit 60 = .ok (.iconst 2, 1) := by decide +kernel
theorem dX4_failureOfBit_61 : decode cX4_failureOfBit 61 = .ok (.ireturn, 1) := by decide +kernel
theorem dX4_failureOfBit_62 : decode cX4_failureOfBit 62 = .ok (.iload_n 2, 1) := by decide +kernel
theorem dX4_failureOfBit_63 : decode cX4_failureOfBit 63 = .ok (.iconst 1, 1) := by decide +kernel
theorem dX4_failureOfBit_64 : decode cX4_failureOfBit 64 = .ok (.if_icmp .ne 7, 3) := by decide +kernel
theorem dX4_failureOfBit_67 : decode cX4_failureOfBit 67 = .ok (.iconst 0, 1) := by decide +kernel
theorem dX4_failureOfBit_68 : decode cX4_failureOfBit 68 = .ok (.goto 4, 3) := by decide +kernel
theorem dX4_failureOfBit_71 : decode cX4_failureOfBit 71 = .ok (.iconst 3, 1) := by decide +kernel
theorem dX4_failureOfBit_72 : decode cX4_failureOfBit 72 = .ok (.ireturn, 1) := by decide +kernel
theorem dX5_init_0 : decode cX5_init 0 = .ok (.aload_n 0, 1) := by decide +kernel
theorem dX5_init_1 : decode cX5_init 1 = .ok (.invokespecial 3, 3) := by decide +kernel
theorem dX5_init_4 : decode cX5_init 4 = .ok (.aload_n 0, 1) := by decide +kernel
theorem dX5_init_5 : decode cX5_init 5 = .ok (.sipush 360, 3) := by decide +kernel
theorem dX5_init_8 : decode cX5_init 8 = .ok (.newarray .int, 2) := by decide +kernel
theorem dX5_init_10 : decode cX5_init 10 = .ok (.putfield 9, 3) := by decide +kernel
theorem dX5_init_13 : decode cX5_init 13 = .ok (.aload_n 0, 1) := by decide +kernel
theorem dX5_init_14 : decode cX5_init 14 = .ok (.sipush 360, 3) := by decide +kernel
theorem dX5_init_17 : decode cX5_init 17 = .ok (.newarray .int, 2) := by decide +kernel
theorem dX5_init_19 : decode cX5_init 19 = .ok (.putfield 15, 3) := by decide +kernel
theorem dX5_init_22 : decode cX5_init 22 = .ok (.aload_n 0, 1) := by decide +kernel
theorem dX5_init_23 : decode cX5_init 23 = .ok (.iconst 0, 1) := by decide +kernel
theorem dX5_init_24 : decode cX5_init 24 = .ok (.putfield 18, 3) := by decide +kernel
theorem dX5_init_27 : decode cX5_init 27 = .ok (.aload_n 0, 1) := by decide +kernel
theorem dX5_init_28 : decode cX5_init 28 = .ok (.iconst 0, 1) := by decide +kernel
theorem dX5_init_29 : decode cX5_init 29 = .ok (.putfield 22, 3) := by decide +kernel
theorem dX5_init_32 : decode cX5_init 32 = .ok (.return_, 1) := by decide +kernel
theorem dX5_mark_0 : decode cX5_mark 0 = .ok (.aload_n 0, 1) := by decide +kernel
theorem dX5_mark_1 : decode cX5_mark 1 = .ok (.aload_n 1, 1) := by decide +kernel
theorem dX5_mark_2 : decode cX5_mark 2 = .ok (.getfield 25, 3) := by decide +kernel
theorem dX5_mark_5 : decode cX5_mark 5 = .ok (.putfield 18, 3) := by decide +kernel
theorem dX5_mark_8 : decode cX5_mark 8 = .ok (.aload_n 0, 1) := by decide +kernel
theorem dX5_mark_9 : decode cX5_mark 9 = .ok (.iconst 0, 1) := by decide +kernel
theorem dX5_mark_10 : decode cX5_mark 10 = .ok (.putfield 22, 3) := by decide +kernel
theorem dX5_mark_13 : decode cX5_mark 13 = .ok (.iconst 0, 1) := by decide +kernel
theorem dX5_mark_14 : decode cX5_mark 14 = .ok (.istore_n 2, 1) := by decide +kernel
theorem dX5_mark_15 : decode cX5_mark 15 = .ok (.iconst 0, 1) := by decide +kernel
theorem dX5_mark_16 : decode cX5_mark 16 = .ok (.istore_n 3, 1) := by decide +kernel
theorem dX5_mark_17 : decode cX5_mark 17 = .ok (.iload_n 3, 1) := by decide +kernel
theorem dX5_mark_18 : decode cX5_mark 18 = .ok (.aload_n 0, 1) := by decide +kernel
theorem dX5_mark_19 : decode cX5_mark 19 = .ok (.getfield 18, 3) := by decide +kernel
theorem dX5_mark_22 : decode cX5_mark 22 = .ok (.if_icmp .ge 47, 3) := by decide +kernel
theorem dX5_mark_25 : decode cX5_mark 25 = .ok (.iload_n 3, 1) := by decide +kernel
theorem dX5_mark_26 : decode cX5_mark 26 = .ok (.sipush 360, 3) := by decide +kernel
theorem dX5_mark_29 : decode cX5_mark 29 = .ok (.if_icmp .ge 40, 3) := by decide +kernel
theorem dX5_mark_32 : decode cX5_mark 32 = .ok (.iload_n 3, 1) := by decide +kernel
theorem dX5_mark_33 : decode cX5_mark 33 = .ok (.ifCond .eq 11, 3) := by decide +kernel
theorem dX5_mark_36 : decode cX5_mark 36 = .ok (.aload_n 1, 1) := by decide +kernel
theorem dX5_mark_37 : decode cX5_mark 37 = .ok (.iload_n 3, 1) := by decide +kernel
theorem dX5_mark_38 : decode cX5_mark 38 = .ok (.invokevirtual 28, 3) := by decide +kernel
theorem dX5_mark_41 : decode cX5_mark 41 = .ok (.ifCond .eq 15, 3) := by decide +kernel
theorem dX5_mark_44 : decode cX5_mark 44 = .ok (.iload_n 3, 1) := by decide +kernel
theorem dX5_mark_45 : decode cX5_mark 45 = .ok (.istore_n 2, 1) := by decide +kernel
theorem dX5_mark_46 : decode cX5_mark 46 = .ok (.aload_n 0, 1) := by decide +kernel
theorem dX5_mark_47 : decode cX5_mark 47 = .ok (.dup, 1) := by decide +kernel
theorem dX5_mark_48 : decode cX5_mark 48 = .ok (.getfield 22, 3) := by decide +kernel
theorem dX5_mark_51 : decode cX5_mark 51 = .ok (.iconst 1, 1) := by decide +kernel
theorem dX5_mark_52 : decode cX5_mark 52 = .ok (.iadd, 1) := by decide +kernel
theorem dX5_mark_53 : decode cX5_mark 53 = .ok (.putfield 22, 3) := by decide +kernel
theorem dX5_mark_56 : decode cX5_mark 56 = .ok (.aload_n 0, 1) := by decide +kernel
theorem dX5_mark_57 : decode cX5_mark 57 = .ok (.getfield 9, 3) := by decide +kernel
theorem dX5_mark_60 : decode cX5_mark 60 = .ok (.iload_n 3, 1) := by decide +kernel
theorem dX5_mark_61 : decode cX5_mark 61 = .ok (.iload_n 2, 1) := by decide +kernel
theorem dX5_mark_62 : decode cX5_mark 62 = .ok (.iastore, 1) := by decide +kernel
theorem dX5_mark_63 : decode cX5_mark 63 = .ok (.iinc 3 1, 3) := by decide +kernel
theorem dX5_mark_66 : decode cX5_mark 66 = .ok (.goto (-49), 3) := by decide +kernel
theorem dX5_mark_69 : decode cX5_mark 69 = .ok (.aload_n 0, 1) := by decide +kernel
theorem dX5_mark_70 : decode cX5_mark 70 = .ok (.getfield 18, 3) := by decide +kernel
theorem dX5_mark_73 : decode cX5_mark 73 = .ok (.iconst 1, 1) := by decide +kernel
theorem dX5_mark_74 : decode cX5_mark 74 = .ok (.isub, 1) := by decide +kernel
theorem dX5_mark_75 : decode cX5_mark 75 = .ok (.istore_n 3, 1) := by decide +kernel
theorem dX5_mark_76 : decode cX5_mark 76 = .ok (.iload_n 3, 1) := by decide +kernel
theorem dX5_mark_77 : decode cX5_mark 77 = .ok (.istore 4, 2) := by decide +kernel
theorem dX5_mark_79 : decode cX5_mark 79 = .ok (.iload 4, 2) := by decide +kernel
theorem dX5_mark_81 : decode cX5_mark 81 = .ok (.ifCond .lt 42, 3) := by decide +kernel
theorem dX5_mark_84 : decode cX5_mark 84 = .ok (.iload 4, 2) := by decide +kernel
theorem dX5_mark_86 : decode cX5_mark 86 = .ok (.sipush 360, 3) := by decide +kernel
theorem dX5_mark_89 : decode cX5_mark 89 = .ok (.if_icmp .ge 34, 3) := by decide +kernel
theorem dX5_mark_92 : decode cX5_mark 92 = .ok (.aload_n 0, 1) := by decide +kernel
theorem dX5_mark_93 : decode cX5_mark 93 = .ok (.getfield 15, 3) := by decide +kernel
theorem dX5_mark_96 : decode cX5_mark 96 = .ok (.iload 4, 2) := by decide +kernel
theorem dX5_mark_98 : decode cX5_mark 98 = .ok (.iload_n 3, 1) := by decide +kernel
theorem dX5_mark_99 : decode cX5_mark 99 = .ok (.iastore, 1) := by decide +kernel
theorem dX5_mark_100 : decode cX5_mark 100 = .ok (.aload_n 0, 1) := by decide +kernel
theorem dX5_mark_101 : decode cX5_mark 101 = .ok (.getfield 9, 3) := by decide +kernel
theorem dX5_mark_104 : decode cX5_mark 104 = .ok (.iload 4, 2) := by decide +kernel
theorem dX5_mark_106 : decode cX5_mark 106 = .ok (.iaload, 1) := by decide +kernel
theorem dX5_mark_107 : decode cX5_mark 107 = .ok (.iload 4, 2) := by decide +kernel
theorem dX5_mark_109 : decode cX5_mark 109 = .ok (.if_icmp .ne 8, 3) := by decide +kernel
theorem dX5_mark_112 : decode cX5_mark 112 = .ok (.iload 4, 2) := by decide +kernel
theorem dX5_mark_114 : decode cX5_mark 114 = .ok (.iconst 1, 1) := by decide +kernel
theorem dX5_mark_115 : decode cX5_mark 115 = .ok (.isub, 1) := by decide +kernel
theorem dX5_mark_116 : decode cX5_mark 116 = .ok (.istore_n 3, 1) := by decide +kernel
theorem dX5_mark_117 : decode cX5_mark 117 = .ok (.iinc 4 (-1), 3) := by decide +kernel
theorem dX5_mark_120 : decode cX5_mark 120 = .ok (.goto (-41), 3) := by decide +kernel
theorem dX5_mark_123 : decode cX5_mark 123 = .ok (.return_, 1) := by decide +kernel
theorem dX5_edges_0 : decode cX5_edges 0 = .ok (.iconst 0, 1) := by decide +kernel
theorem dX5_edges_1 : decode cX5_edges 1 = .ok (.aload_n 0, 1) := by decide +kernel
theorem dX5_edges_2 : decode cX5_edges 2 = .ok (.getfield 22, 3) := by decide +kernel
theorem dX5_edges_5 : decode cX5_edges 5 = .ok (.iconst 1, 1) := by decide +kernel
theorem dX5_edges_6 : decode cX5_edges 6 = .ok (.isub, 1) := by decide +kernel
theorem dX5_edges_7 : decode cX5_edges 7 = .ok (.invokestatic 32, 3) := by decide +kernel
theorem dX5_edges_10 : decode cX5_edges 10 = .ok (.ireturn, 1) := by decide +kernel
theorem dX5_nextEdge_0 : decode cX5_nextEdge 0 = .ok (.iload_n 1, 1) := by decide +kernel
theorem dX5_nextEdge_1 : decode cX5_nextEdge 1 = .ok (.ifCond .lt 22, 3) := by decide +kernel
theorem dX5_nextEdge_4 : decode cX5_nextEdge 4 = .ok (.iload_n 1, 1) := by decide +kernel
theorem dX5_nextEdge_5 : decode cX5_nextEdge 5 = .ok (.aload_n 0, 1) := by decide +kernel
theorem dX5_nextEdge_6 : decode cX5_nextEdge 6 = .ok (.getfield 18, 3) := by decide +kernel
theorem dX5_nextEdge_9 : decode cX5_nextEdge 9 = .ok (.if_icmp .ge 14, 3) := by decide +kernel
theorem dX5_nextEdge_12 : decode cX5_nextEdge 12 = .ok (.aload_n 0, 1) := by decide +kernel
theorem dX5_nextEdge_13 : decode cX5_nextEdge 13 = .ok (.getfield 15, 3) := by decide +kernel
theorem dX5_nextEdge_16 : decode cX5_nextEdge 16 = .ok (.iload_n 1, 1) := by decide +kernel
theorem dX5_nextEdge_17 : decode cX5_nextEdge 17 = .ok (.iaload, 1) := by decide +kernel
theorem dX5_nextEdge_18 : decode cX5_nextEdge 18 = .ok (.iconst 1, 1) := by decide +kernel
theorem dX5_nextEdge_19 : decode cX5_nextEdge 19 = .ok (.iadd, 1) := by decide +kernel
theorem dX5_nextEdge_20 : decode cX5_nextEdge 20 = .ok (.goto 7, 3) := by decide +kernel
theorem dX5_nextEdge_23 : decode cX5_nextEdge 23 = .ok (.aload_n 0, 1) := by decide +kernel
theorem dX5_nextEdge_24 : decode cX5_nextEdge 24 = .ok (.getfield 18, 3) := by decide +kernel
theorem dX5_nextEdge_27 : decode cX5_nextEdge 27 = .ok (.istore_n 2, 1) := by decide +kernel
theorem dX5_nextEdge_28 : decode cX5_nextEdge 28 = .ok (.iload_n 2, 1) := by decide +kernel
theorem dX5_nextEdge_29 : decode cX5_nextEdge 29 = .ok (.aload_n 0, 1) := by decide +kernel
theorem dX5_nextEdge_30 : decode cX5_nextEdge 30 = .ok (.getfield 18, 3) := by decide +kernel
theorem dX5_nextEdge_33 : decode cX5_nextEdge 33 = .ok (.if_icmp .ge 7, 3) := by decide +kernel
theorem dX5_nextEdge_36 : decode cX5_nextEdge 36 = .ok (.iload_n 2, 1) := by decide +kernel
theorem dX5_nextEdge_37 : decode cX5_nextEdge 37 = .ok (.goto 5, 3) := by decide +kernel
theorem dX5_nextEdge_40 : decode cX5_nextEdge 40 = .ok (.bipush (-9), 2) := by decide +kernel
theorem dX5_nextEdge_42 : decode cX5_nextEdge 42 = .ok (.ireturn, 1) := by decide +kernel
theorem dX5_ticksOfRun_0 : decode cX5_ticksOfRun 0 = .ok (.iload_n 1, 1) := by decide +kernel
theorem dX5_ticksOfRun_1 : decode cX5_ticksOfRun 1 = .ok (.ifCond .lt 11, 3) := by decide +kernel
theorem dX5_ticksOfRun_4 : decode cX5_ticksOfRun 4 = .ok (.iload_n 1, 1) := by decide +kernel
theorem dX5_ticksOfRun_5 : decode cX5_ticksOfRun 5 = .ok (.aload_n 0, 1) := by decide +kernel
theorem dX5_ticksOfRun_6 : decode cX5_ticksOfRun 6 = .ok (.getfield 22, 3) := by decide +kernel
theorem dX5_ticksOfRun_9 : decode cX5_ticksOfRun 9 = .ok (.if_icmp .lt 6, 3) := by decide +kernel
theorem dX5_ticksOfRun_12 : decode cX5_ticksOfRun 12 = .ok (.bipush (-9), 2) := by decide +kernel
theorem dX5_ticksOfRun_14 : decode cX5_ticksOfRun 14 = .ok (.ireturn, 1) := by decide +kernel
theorem dX5_ticksOfRun_15 : decode cX5_ticksOfRun 15 = .ok (.iconst 0, 1) := by decide +kernel
theorem dX5_ticksOfRun_16 : decode cX5_ticksOfRun 16 = .ok (.istore_n 2, 1) := by decide +kernel
theorem dX5_ticksOfRun_17 : decode cX5_ticksOfRun 17 = .ok (.iconst 0, 1) := by decide +kernel
theorem dX5_ticksOfRun_18 : decode cX5_ticksOfRun 18 = .ok (.istore_n 3, 1) := by decide +kernel
theorem dX5_ticksOfRun_19 : decode cX5_ticksOfRun 19 = .ok (.iload_n 3, 1) := by decide +kernel
theorem dX5_ticksOfRun_20 : decode cX5_ticksOfRun 20 = .ok (.iload_n 1, 1) := by decide +kernel
theorem dX5_ticksOfRun_21 : decode cX5_ticksOfRun 21 = .ok (.if_icmp .ge 15, 3) := by decide +kernel
theorem dX5_ticksOfRun_24 : decode cX5_ticksOfRun 24 = .ok (.aload_n 0, 1) := by decide +kernel
theorem dX5_ticksOfRun_25 : decode cX5_ticksOfRun 25 = .ok (.iload_n 2, 1) := by decide +kernel
theorem dX5_ticksOfRun_26 : decode cX5_ticksOfRun 26 = .ok (.invokevirtual 38, 3) := by decide +kernel
theorem dX5_ticksOfRun_29 : decode cX5_ticksOfRun 29 = .ok (.istore_n 2, 1) := by decide +kernel
theorem dX5_ticksOfRun_30 : decode cX5_ticksOfRun 30 = .ok (.iinc 3 1, 3) := by decide +kernel
theorem dX5_ticksOfRun_33 : decode cX5_ticksOfRun 33 = .ok (.goto (-14), 3) := by decide +kernel
theorem dX5_ticksOfRun_36 : decode cX5_ticksOfRun 36 = .ok (.aload_n 0, 1) := by decide +kernel
theorem dX5_ticksOfRun_37 : decode cX5_ticksOfRun 37 = .ok (.iload_n 2, 1) := by decide +kernel
theorem dX5_ticksOfRun_38 : decode cX5_ticksOfRun 38 = .ok (.invokevirtual 42, 3) := by decide +kernel
theorem dX5_ticksOfRun_41 : decode cX5_ticksOfRun 41 = .ok (.ireturn, 1) := by decide +kernel
theorem dX5_inset_0 : decode cX5_inset 0 = .ok (.iload_n 1, 1) := by decide +kernel
theorem dX5_inset_1 : decode cX5_inset 1 = .ok (.ifCond .lt 11, 3) := by decide +kernel
theorem dX5_inset_4 : decode cX5_inset 4 = .ok (.iload_n 1, 1) := by decide +kernel
theorem dX5_inset_5 : decode cX5_inset 5 = .ok (.aload_n 0, 1) := by decide +kernel
theorem dX5_inset_6 : decode cX5_inset 6 = .ok (.getfield 18, 3) := by decide +kernel
theorem dX5_inset_9 : decode cX5_inset 9 = .ok (.if_icmp .lt 5, 3) := by decide +kernel
theorem dX5_inset_12 : decode cX5_inset 12 = .ok (.iconst 0, 1) := by decide +kernel
theorem dX5_inset_13 : decode cX5_inset 13 = .ok (.ireturn, 1) := by decide +kernel
theorem dX5_inset_14 : decode cX5_inset 14 = .ok (.iload_n 1, 1) := by decide +kernel
theorem dX5_inset_15 : decode cX5_inset 15 = .ok (.aload_n 0, 1) := by decide +kernel
theorem dX5_inset_16 : decode cX5_inset 16 = .ok (.getfield 9, 3) := by decide +kernel
theorem dX5_inset_19 : decode cX5_inset 19 = .ok (.iload_n 1, 1) := by decide +kernel
theorem dX5_inset_20 : decode cX5_inset 20 = .ok (.iaload, 1) := by decide +kernel
theorem dX5_inset_21 : decode cX5_inset 21 = .ok (.isub, 1) := by decide +kernel
theorem dX5_inset_22 : decode cX5_inset 22 = .ok (.istore_n 2, 1) := by decide +kernel
theorem dX5_inset_23 : decode cX5_inset 23 = .ok (.aload_n 0, 1) := by decide +kernel
theorem dX5_inset_24 : decode cX5_inset 24 = .ok (.getfield 15, 3) := by decide +kernel
theorem dX5_inset_27 : decode cX5_inset 27 = .ok (.iload_n 1, 1) := by decide +kernel
theorem dX5_inset_28 : decode cX5_inset 28 = .ok (.iaload, 1) := by decide +kernel
theorem dX5_inset_29 : decode cX5_inset 29 = .ok (.iload_n 1, 1) := by decide +kernel
theorem dX5_inset_30 : decode cX5_inset 30 = .ok (.isub, 1) := by decide +kernel
theorem dX5_inset_31 : decode cX5_inset 31 = .ok (.istore_n 3, 1) := by decide +kernel
theorem dX5_inset_32 : decode cX5_inset 32 = .ok (.iload_n 2, 1) := by decide +kernel
theorem dX5_inset_33 : decode cX5_inset 33 = .ok (.iload_n 3, 1) := by decide +kernel
theorem dX5_inset_34 : decode cX5_inset 34 = .ok (.if_icmp .ge 7, 3) := by decide +kernel
theorem dX5_inset_37 : decode cX5_inset 37 = .ok (.iload_n 2, 1) := by decide +kernel
theorem dX5_inset_38 : decode cX5_inset 38 = .ok (.goto 4, 3) := by decide +kernel
theorem dX5_inset_41 : decode cX5_inset 41 = .ok (.iload_n 3, 1) := by decide +kernel
theorem dX5_inset_42 : decode cX5_inset 42 = .ok (.ireturn, 1) := by decide +kernel
theorem dX5_offBy_0 : decode cX5_offBy 0 = .ok (.iconst 0, 1) := by decide +kernel
theorem dX5_offBy_1 : decode cX5_offBy 1 = .ok (.istore_n 2, 1) := by decide +kernel
theorem dX5_offBy_2 : decode cX5_offBy 2 = .ok (.aload_n 0, 1) := by decide +kernel
theorem dX5_offBy_3 : decode cX5_offBy 3 = .ok (.iconst 0, 1) := by decide +kernel
theorem dX5_offBy_4 : decode cX5_offBy 4 = .ok (.invokevirtual 38, 3) := by decide +kernel
theorem dX5_offBy_7 : decode cX5_offBy 7 = .ok (.istore_n 3, 1) := by decide +kernel
theorem dX5_offBy_8 : decode cX5_offBy 8 = .ok (.iconst 1, 1) := by decide +kernel
theorem dX5_offBy_9 : decode cX5_offBy 9 = .ok (.istore 4, 2) := by decide +kernel
theorem dX5_offBy_11 : decode cX5_offBy 11 = .ok (.iload 4, 2) := by decide +kernel
theorem dX5_offBy_13 : decode cX5_offBy 13 = .ok (.aload_n 0, 1) := by decide +kernel
theorem dX5_offBy_14 : decode cX5_offBy 14 = .ok (.getfield 22, 3) := by decide +kernel
theorem dX5_offBy_17 : decode cX5_offBy 17 = .ok (.iconst 1, 1) := by decide +kernel
theorem dX5_offBy_18 : decode cX5_offBy 18 = .ok (.isub, 1) := by decide +kernel
theorem dX5_offBy_19 : decode cX5_offBy 19 = .ok (.if_icmp .ge 27, 3) := by decide +kernel
theorem dX5_offBy_22 : decode cX5_offBy 22 = .ok (.iload_n 2, 1) := by decide +kernel
theorem dX5_offBy_23 : decode cX5_offBy 23 = .ok (.aload_n 0, 1) := by decide +kernel
theorem dX5_offBy_24 : decode cX5_offBy 24 = .ok (.iload_n 3, 1) := by decide +kernel
theorem dX5_offBy_25 : decode cX5_offBy 25 = .ok (.invokevirtual 42, 3) := by decide +kernel
theorem dX5_offBy_28 : decode cX5_offBy 28 = .ok (.iload_n 1, 1) := by decide +kernel
theorem dX5_offBy_29 : decode cX5_offBy 29 = .ok (.invokestatic 45, 3) := by decide +kernel
theorem dX5_offBy_32 : decode cX5_offBy 32 = .ok (.iadd, 1) := by decide +kernel
theorem dX5_offBy_33 : decode cX5_offBy 33 = .ok (.istore_n 2, 1) := by decide +kernel
theorem dX5_offBy_34 : decode cX5_offBy 34 = .ok (.aload_n 0, 1) := by decide +kernel
theorem dX5_offBy_35 : decode cX5_offBy 35 = .ok (.iload_n 3, 1) := by decide +kernel
theorem dX5_offBy_36 : decode cX5_offBy 36 = .ok (.invokevirtual 38, 3) := by decide +kernel
theorem dX5_offBy_39 : decode cX5_offBy 39 = .ok (.istore_n 3, 1) := by decide +kernel
theorem dX5_offBy_40 : decode cX5_offBy 40 = .ok (.iinc 4 1, 3) := by decide +kernel
theorem dX5_offBy_43 : decode cX5_offBy 43 = .ok (.goto (-32), 3) := by decide +kernel
theorem dX5_offBy_46 : decode cX5_offBy 46 = .ok (.iload_n 2, 1) := by decide +kernel
theorem dX5_offBy_47 : decode cX5_offBy 47 = .ok (.ireturn, 1) := by decide +kernel
theorem dX5_width_0 : decode cX5_width 0 = .ok (.iconst 1, 1) := by decide +kernel
theorem dX5_width_1 : decode cX5_width 1 = .ok (.istore_n 1, 1) := by decide +kernel
theorem dX5_width_2 : decode cX5_width 2 = .ok (.aload_n 0, 1) := by decide +kernel
theorem dX5_width_3 : decode cX5_width 3 = .ok (.iconst 1, 1) := by decide +kernel
theorem dX5_width_4 : decode cX5_width 4 = .ok (.invokevirtual 48, 3) := by decide +kernel
theorem dX5_width_7 : decode cX5_width 7 = .ok (.istore_n 2, 1) := by decide +kernel
theorem dX5_width_8 : decode cX5_width 8 = .ok (.iconst 2, 1) := by decide +kernel
theorem dX5_width_9 : decode cX5_width 9 = .ok (.istore_n 3, 1) := by decide +kernel
theorem dX5_width_10 : decode cX5_width 10 = .ok (.iload_n 3, 1) := by decide +kernel
theorem dX5_width_11 : decode cX5_width 11 = .ok (.bipush 16, 2) := by decide +kernel
theorem dX5_width_13 : decode cX5_width 13 = .ok (.if_icmp .gt 27, 3) := by decide +kernel
theorem dX5_width_16 : decode cX5_width 16 = .ok (.aload_n 0, 1) := by decide +kernel
theorem dX5_width_17 : decode cX5_width 17 = .ok (.iload_n 3, 1) := by decide +kernel
theorem dX5_width_18 : decode cX5_width 18 = .ok (.invokevirtual 48, 3) := by decide +kernel
theorem dX5_width_21 : decode cX5_width 21 = .ok (.istore 4, 2) := by decide +kernel
theorem dX5_width_23 : decode cX5_width 23 = .ok (.iload 4, 2) := by decide +kernel
theorem dX5_width_25 : decode cX5_width 25 = .ok (.iload_n 2, 1) := by decide +kernel
theorem dX5_width_26 : decode cX5_width 26 = .ok (.if_icmp .gt 8, 3) := by decide +kernel
theorem dX5_width_29 : decode cX5_width 29 = .ok (.iload 4, 2) := by decide +kernel
theorem dX5_width_31 : decode cX5_width 31 = .ok (.istore_n 2, 1) := by decide +kernel
theorem dX5_width_32 : decode cX5_width 32 = .ok (.iload_n 3, 1) := by decide +kernel
theorem dX5_width_33 : decode cX5_width 33 = .ok (.istore_n 1, 1) := by decide +kernel
theorem dX5_width_34 : decode cX5_width 34 = .ok (.iinc 3 1, 3) := by decide +kernel
theorem dX5_width_37 : decode cX5_width 37 = .ok (.goto (-27), 3) := by decide +kernel
theorem dX5_width_40 : decode cX5_width 40 = .ok (.iload_n 1, 1) := by decide +kernel
theorem dX5_width_41 : decode cX5_width 41 = .ok (.ireturn, 1) := by decide +kernel
theorem dX5_lengthFrom_0 : decode cX5_lengthFrom 0 = .ok (.iload_n 1, 1) := by decide +kernel
theorem dX5_lengthFrom_1 : decode cX5_lengthFrom 1 = .ok (.ifCond .lt 24, 3) := by decide +kernel
theorem dX5_lengthFrom_4 : decode cX5_lengthFrom 4 = .ok (.iload_n 1, 1) := by decide +kernel
theorem dX5_lengthFrom_5 : decode cX5_lengthFrom 5 = .ok (.aload_n 0, 1) := by decide +kernel
theorem dX5_lengthFrom_6 : decode cX5_lengthFrom 6 = .ok (.getfield 18, 3) := by decide +kernel
theorem dX5_lengthFrom_9 : decode cX5_lengthFrom 9 = .ok (.if_icmp .ge 16, 3) := by decide +kernel
theorem dX5_lengthFrom_12 : decode cX5_lengthFrom 12 = .ok (.aload_n 0, 1) := by decide +kernel
theorem dX5_lengthFrom_13 : decode cX5_lengthFrom 13 = .ok (.getfield 15, 3) := by decide +kernel
theorem dX5_lengthFrom_16 : decode cX5_lengthFrom 16 = .ok (.iload_n 1, 1) := by decide +kernel
theorem dX5_lengthFrom_17 : decode cX5_lengthFrom 17 = .ok (.iaload, 1) := by decide +kernel
theorem dX5_lengthFrom_18 : decode cX5_lengthFrom 18 = .ok (.iload_n 1, 1) := by decide +kernel
theorem dX5_lengthFrom_19 : decode cX5_lengthFrom 19 = .ok (.isub, 1) := by decide +kernel
theorem dX5_lengthFrom_20 : decode cX5_lengthFrom 20 = .ok (.iconst 1, 1) := by decide +kernel
theorem dX5_lengthFrom_21 : decode cX5_lengthFrom 21 = .ok (.iadd, 1) := by decide +kernel
theorem dX5_lengthFrom_22 : decode cX5_lengthFrom 22 = .ok (.goto 5, 3) := by decide +kernel
theorem dX5_lengthFrom_25 : decode cX5_lengthFrom 25 = .ok (.bipush (-9), 2) := by decide +kernel
theorem dX5_lengthFrom_27 : decode cX5_lengthFrom 27 = .ok (.ireturn, 1) := by decide +kernel
theorem dX5_offOfRun_0 : decode cX5_offOfRun 0 = .ok (.iload_n 0, 1) := by decide +kernel
theorem dX5_offOfRun_1 : decode cX5_offOfRun 1 = .ok (.iload_n 1, 1) := by decide +kernel
theorem dX5_offOfRun_2 : decode cX5_offOfRun 2 = .ok (.if_icmp .lt 8, 3) := by decide +kernel
theorem dX5_offOfRun_5 : decode cX5_offOfRun 5 = .ok (.iload_n 1, 1) := by decide +kernel
theorem dX5_offOfRun_6 : decode cX5_offOfRun 6 = .ok (.iconst 1, 1) := by decide +kernel
theorem dX5_offOfRun_7 : decode cX5_offOfRun 7 = .ok (.if_icmp .ge 7, 3) := by decide +kernel
theorem dX5_offOfRun_10 : decode cX5_offOfRun 10 = .ok (.iload_n 1, 1) := by decide +kernel
theorem dX5_offOfRun_11 : decode cX5_offOfRun 11 = .ok (.iload_n 0, 1) := by decide +kernel
theorem dX5_offOfRun_12 : decode cX5_offOfRun 12 = .ok (.isub, 1) := by decide +kernel
theorem dX5_offOfRun_13 : decode cX5_offOfRun 13 = .ok (.ireturn, 1) := by decide +kernel
theorem dX5_offOfRun_14 : decode cX5_offOfRun 14 = .ok (.iload_n 0, 1) := by decide +kernel
theorem dX5_offOfRun_15 : decode cX5_offOfRun 15 = .ok (.iload_n 1, 1) := by decide +kernel
theorem dX5_offOfRun_16 : decode cX5_offOfRun 16 = .ok (.irem, 1) := by decide +kernel
theorem dX5_offOfRun_17 : decode cX5_offOfRun 17 = .ok (.istore_n 2, 1) := by decide +kernel
theorem dX5_offOfRun_18 : decode cX5_offOfRun 18 = .ok (.iload_n 2, 1) := by decide +kernel
theorem dX5_offOfRun_19 : decode cX5_offOfRun 19 = .ok (.iload_n 1, 1) := by decide +kernel
theorem dX5_offOfRun_20 : decode cX5_offOfRun 20 = .ok (.iload_n 2, 1) := by decide +kernel
theorem dX5_offOfRun_21 : decode cX5_offOfRun 21 = .ok (.isub, 1) := by decide +kernel
theorem dX5_offOfRun_22 : decode cX5_offOfRun 22 = .ok (.invokestatic 51, 3) := by decide +kernel
theorem dX5_offOfRun_25 : decode cX5_offOfRun 25 = .ok (.ireturn, 1) := by decide +kernel
theorem dX6_init_0 : decode cX6_init 0 = .ok (.aload_n 0, 1) := by decide +kernel
theorem dX6_init_1 : decode cX6_init 1 = .ok (.invokespecial 3, 3) := by decide +kernel
theorem dX6_init_4 : decode cX6_init 4 = .ok (.aload_n 0, 1) := by decide +kernel
theorem dX6_init_5 : decode cX6_init 5 = .ok (.iconst 2, 1) := by decide +kernel
theorem dX6_init_6 : decode cX6_init 6 = .ok (.anewarray 9, 3) := by decide +kernel
theorem dX6_init_9 : decode cX6_init 9 = .ok (.dup, 1) := by decide +kernel
theorem dX6_init_10 : decode cX6_init 10 = .ok (.iconst 0, 1) := by decide +kernel
theorem dX6_init_11 : decode cX6_init 11 = .ok (.new 9, 3) := by decide +kernel
theorem dX6_init_14 : decode cX6_init 14 = .ok (.dup, 1) := by decide +kernel
theorem dX6_init_15 : decode cX6_init 15 = .ok (.invokespecial 11, 3) := by decide +kernel
theorem dX6_init_18 : decode cX6_init 18 = .ok (.aastore, 1) := by decide +kernel
theorem dX6_init_19 : decode cX6_init 19 = .ok (.dup, 1) := by decide +kernel
theorem dX6_init_20 : decode cX6_init 20 = .ok (.iconst 1, 1) := by decide +kernel
theorem dX6_init_21 : decode cX6_init 21 = .ok (.new 9, 3) := by decide +kernel
theorem dX6_init_24 : decode cX6_init 24 = .ok (.dup, 1) := by decide +kernel
theorem dX6_init_25 : decode cX6_init 25 = .ok (.invokespecial 11, 3) := by decide +kernel
theorem dX6_init_28 : decode cX6_init 28 = .ok (.aastore, 1) := by decide +kernel
theorem dX6_init_29 : decode cX6_init 29 = .ok (.putfield 12, 3) := by decide +kernel
theorem dX6_init_32 : decode cX6_init 32 = .ok (.aload_n 0, 1) := by decide +kernel
theorem dX6_init_33 : decode cX6_init 33 = .ok (.iconst 2, 1) := by decide +kernel
theorem dX6_init_34 : decode cX6_init 34 = .ok (.newarray .boolean, 2) := by decide +kernel
theorem dX6_init_36 : decode cX6_init 36 = .ok (.putfield 18, 3) := by decide +kernel
theorem dX6_init_39 : decode cX6_init 39 = .ok (.return_, 1) := by decide +kernel
theorem dX6_has_0 : decode cX6_has 0 = .ok (.iload_n 1, 1) := by decide +kernel
theorem dX6_has_1 : decode cX6_has 1 = .ok (.ifCond .lt 12, 3) := by decide +kernel
theorem dX6_has_4 : decode cX6_has 4 = .ok (.iload_n 1, 1) := by decide +kernel
theorem dX6_has_5 : decode cX6_has 5 = .ok (.iconst 2, 1) := by decide +kernel
theorem dX6_has_6 : decode cX6_has 6 = .ok (.if_icmp .ge 7, 3) := by decide +kernel
theorem dX6_has_9 : decode cX6_has 9 = .ok (.iconst 1, 1) := by decide +kernel
theorem dX6_has_10 : decode cX6_has 10 = .ok (.goto 4, 3) := by decide +kernel
theorem dX6_has_13 : decode cX6_has 13 = .ok (.iconst 0, 1) := by decide +kernel
theorem dX6_has_14 : decode cX6_has 14 = .ok (.ireturn, 1) := by decide +kernel
theorem dX6_isUsed_0 : decode cX6_isUsed 0 = .ok (.aload_n 0, 1) := by decide +kernel
theorem dX6_isUsed_1 : decode cX6_isUsed 1 = .ok (.iload_n 1, 1) := by decide +kernel
theorem dX6_isUsed_2 : decode cX6_isUsed 2 = .ok (.invokevirtual 22, 3) := by decide +kernel
theorem dX6_isUsed_5 : decode cX6_isUsed 5 = .ok (.ifCond .eq 16, 3) := by decide +kernel
theorem dX6_isUsed_8 : decode cX6_isUsed 8 = .ok (.aload_n 0, 1) := by decide +kernel
theorem dX6_isUsed_9 : decode cX6_isUsed 9 = .ok (.getfield 18, 3) := by decide +kernel
theorem dX6_isUsed_12 : decode cX6_isUsed 12 = .ok (.iload_n 1, 1) := by decide +kernel
theorem dX6_isUsed_13 : decode cX6_isUsed 13 = .ok (.baload, 1) := by decide +kernel
theorem dX6_isUsed_14 : decode cX6_isUsed 14 = .ok (.ifCond .eq 7, 3) := by decide +kernel
theorem dX6_isUsed_17 : decode cX6_isUsed 17 = .ok (.iconst 1, 1) := by decide +kernel
theorem dX6_isUsed_18 : decode cX6_isUsed 18 = .ok (.goto 4, 3) := by decide +kernel
theorem dX6_isUsed_21 : decode cX6_isUsed 21 = .ok (.iconst 0, 1) := by decide +kernel
theorem dX6_isUsed_22 : decode cX6_isUsed 22 = .ok (.ireturn, 1) := by decide +kernel
theorem dX6_clear_0 : decode cX6_clear 0 = .ok (.iconst 0, 1) := by decide +kernel
theorem dX6_clear_1 : decode cX6_clear 1 = .ok (.istore_n 1, 1) := by decide +kernel
theorem dX6_clear_2 : decode cX6_clear 2 = .ok (.iload_n 1, 1) := by decide +kernel
theorem dX6_clear_3 : decode cX6_clear 3 = .ok (.iconst 2, 1) := by decide +kernel
theorem dX6_clear_4 : decode cX6_clear 4 = .ok (.if_icmp .ge 16, 3) := by decide +kernel
theorem dX6_clear_7 : decode cX6_clear 7 = .ok (.aload_n 0, 1) := by decide +kernel
theorem dX6_clear_8 : decode cX6_clear 8 = .ok (.getfield 18, 3) := by decide +kernel
theorem dX6_clear_11 : decode cX6_clear 11 = .ok (.iload_n 1, 1) := by decide +kernel
theorem dX6_clear_12 : decode cX6_clear 12 = .ok (.iconst 0, 1) := by decide +kernel
theorem dX6_clear_13 : decode cX6_clear 13 = .ok (.bastore, 1) := by decide +kernel
theorem dX6_clear_14 : decode cX6_clear 14 = .ok (.iinc 1 1, 3) := by decide +kernel
theorem dX6_clear_17 : decode cX6_clear 17 = .ok (.goto (-15), 3) := by decide +kernel
theorem dX6_clear_20 : decode cX6_clear 20 = .ok (.return_, 1) := by decide +kernel
theorem dX6_store_0 : decode cX6_store 0 = .ok (.aload_n 0, 1) := by decide +kernel
theorem dX6_store_1 : decode cX6_store 1 = .ok (.iload_n 1, 1) := by decide +kernel
theorem dX6_store_2 : decode cX6_store 2 = .ok (.invokevirtual 22, 3) := by decide +kernel
theorem dX6_store_5 : decode cX6_store 5 = .ok (.ifCond .eq 20, 3) := by decide +kernel
theorem dX6_store_8 : decode cX6_store 8 = .ok (.aload_n 0, 1) := by decide +kernel
theorem dX6_store_9 : decode cX6_store 9 = .ok (.getfield 12, 3) := by decide +kernel
theorem dX6_store_12 : decode cX6_store 12 = .ok (.iload_n 1, 1) := by decide +kernel
theorem dX6_store_13 : decode cX6_store 13 = .ok (.aaload, 1) := by decide +kernel
theorem dX6_store_14 : decode cX6_store 14 = .ok (.aload_n 2, 1) := by decide +kernel
theorem dX6_store_15 : decode cX6_store 15 = .ok (.invokevirtual 26, 3) := by decide +kernel
theorem dX6_store_18 : decode cX6_store 18 = .ok (.aload_n 0, 1) := by decide +kernel
theorem dX6_store_19 : decode cX6_store 19 = .ok (.getfield 18, 3) := by decide +kernel
theorem dX6_store_22 : decode cX6_store 22 = .ok (.iload_n 1, 1) := by decide +kernel
theorem dX6_store_23 : decode cX6_store 23 = .ok (.iconst 1, 1) := by decide +kernel
theorem dX6_store_24 : decode cX6_store 24 = .ok (.bastore, 1) := by decide +kernel
theorem dX6_store_25 : decode cX6_store 25 = .ok (.return_, 1) := by decide +kernel
theorem dX6_restore_0 : decode cX6_restore 0 = .ok (.aload_n 0, 1) := by decide +kernel
theorem dX6_restore_1 : decode cX6_restore 1 = .ok (.iload_n 1, 1) := by decide +kernel
theorem dX6_restore_2 : decode cX6_restore 2 = .ok (.invokevirtual 30, 3) := by decide +kernel
theorem dX6_restore_5 : decode cX6_restore 5 = .ok (.ifCond .eq 13, 3) := by decide +kernel
theorem dX6_restore_8 : decode cX6_restore 8 = .ok (.aload_n 2, 1) := by decide +kernel
theorem dX6_restore_9 : decode cX6_restore 9 = .ok (.aload_n 0, 1) := by decide +kernel
theorem dX6_restore_10 : decode cX6_restore 10 = .ok (.getfield 12, 3) := by decide +kernel
theorem dX6_restore_13 : decode cX6_restore 13 = .ok (.iload_n 1, 1) := by decide +kernel
theorem dX6_restore_14 : decode cX6_restore 14 = .ok (.aaload, 1) := by decide +kernel
theorem dX6_restore_15 : decode cX6_restore 15 = .ok (.invokevirtual 26, 3) := by decide +kernel
theorem dX6_restore_18 : decode cX6_restore 18 = .ok (.return_, 1) := by decide +kernel
theorem dX7_init_0 : decode cX7_init 0 = .ok (.aload_n 0, 1) := by decide +kernel
theorem dX7_init_1 : decode cX7_init 1 = .ok (.invokespecial 3, 3) := by decide +kernel
theorem dX7_init_4 : decode cX7_init 4 = .ok (.aload_n 0, 1) := by decide +kernel
theorem dX7_init_5 : decode cX7_init 5 = .ok (.bipush 99, 2) := by decide +kernel
theorem dX7_init_7 : decode cX7_init 7 = .ok (.newarray .int, 2) := by decide +kernel
theorem dX7_init_9 : decode cX7_init 9 = .ok (.putfield 9, 3) := by decide +kernel
theorem dX7_init_12 : decode cX7_init 12 = .ok (.aload_n 0, 1) := by decide +kernel
theorem dX7_init_13 : decode cX7_init 13 = .ok (.iconst 0, 1) := by decide +kernel
theorem dX7_init_14 : decode cX7_init 14 = .ok (.putfield 15, 3) := by decide +kernel
theorem dX7_init_17 : decode cX7_init 17 = .ok (.return_, 1) := by decide +kernel
theorem dX7_isFull_0 : decode cX7_isFull 0 = .ok (.aload_n 0, 1) := by decide +kernel
theorem dX7_isFull_1 : decode cX7_isFull 1 = .ok (.getfield 15, 3) := by decide +kernel
theorem dX7_isFull_4 : decode cX7_isFull 4 = .ok (.bipush 99, 2) := by decide +kernel
theorem dX7_isFull_6 : decode cX7_isFull 6 = .ok (.if_icmp .lt 7, 3) := by decide +kernel
theorem dX7_isFull_9 : decode cX7_isFull 9 = .ok (.iconst 1, 1) := by decide +kernel
theorem dX7_isFull_10 : decode cX7_isFull 10 = .ok (.goto 4, 3) := by decide +kernel
theorem dX7_isFull_13 : decode cX7_isFull 13 = .ok (.iconst 0, 1) := by decide +kernel
theorem dX7_isFull_14 : decode cX7_isFull 14 = .ok (.ireturn, 1) := by decide +kernel
theorem dX7_add_0 : decode cX7_add 0 = .ok (.aload_n 0, 1) := by decide +kernel
theorem dX7_add_1 : decode cX7_add 1 = .ok (.invokevirtual 19, 3) := by decide +kernel
theorem dX7_add_4 : decode cX7_add 4 = .ok (.ifCond .ne 23, 3) := by decide +kernel
theorem dX7_add_7 : decode cX7_add 7 = .ok (.aload_n 0, 1) := by decide +kernel
theorem dX7_add_8 : decode cX7_add 8 = .ok (.getfield 9, 3) := by decide +kernel
theorem dX7_add_11 : decode cX7_add 11 = .ok (.aload_n 0, 1) := by decide +kernel
theorem dX7_add_12 : decode cX7_add 12 = .ok (.getfield 15, 3) := by decide +kernel
theorem dX7_add_15 : decode cX7_add 15 = .ok (.iload_n 1, 1) := by decide +kernel
theorem dX7_add_16 : decode cX7_add 16 = .ok (.iastore, 1) := by decide +kernel
theorem dX7_add_17 : decode cX7_add 17 = .ok (.aload_n 0, 1) := by decide +kernel
theorem dX7_add_18 : decode cX7_add 18 = .ok (.dup, 1) := by decide +kernel
theorem dX7_add_19 : decode cX7_add 19 = .ok (.getfield 15, 3) := by decide +kernel
theorem dX7_add_22 : decode cX7_add 22 = .ok (.iconst 1, 1) := by decide +kernel
theorem dX7_add_23 : decode cX7_add 23 = .ok (.iadd, 1) := by decide +kernel
theorem dX7_add_24 : decode cX7_add 24 = .ok (.putfield 15, 3) := by decide +kernel
theorem dX7_add_27 : decode cX7_add 27 = .ok (.return_, 1) := by decide +kernel
theorem dX7_firstFault_0 : decode cX7_firstFault 0 = .ok (.aload_n 0, 1) := by decide +kernel
theorem dX7_firstFault_1 : decode cX7_firstFault 1 = .ok (.iconst 0, 1) := by decide +kernel
theorem dX7_firstFault_2 : decode cX7_firstFault 2 = .ok (.invokevirtual 23, 3) := by decide +kernel
theorem dX7_firstFault_5 : decode cX7_firstFault 5 = .ok (.bipush 83, 2) := by decide +kernel
theorem dX7_firstFault_7 : decode cX7_firstFault 7 = .ok (.if_icmp .eq 5, 3) := by decide +kernel
theorem dX7_firstFault_10 : decode cX7_firstFault 10 = .ok (.iconst 0, 1) := by decide +kernel
theorem dX7_firstFault_11 : decode cX7_firstFault 11 = .ok (.ireturn, 1) := by decide +kernel
theorem dX7_firstFault_12 : decode cX7_firstFault 12 = .ok (.aload_n 0, 1) := by decide +kernel
theorem dX7_firstFault_13 : decode cX7_firstFault 13 = .ok (.iconst 1, 1) := by decide +kernel
theorem dX7_firstFault_14 : decode cX7_firstFault 14 = .ok (.invokevirtual 23, 3) := by decide +kernel
theorem dX7_firstFault_17 : decode cX7_firstFault 17 = .ok (.bipush 48, 2) := by decide +kernel
theorem dX7_firstFault_19 : decode cX7_firstFault 19 = .ok (.if_icmp .eq 15, 3) := by decide +kernel
theorem dX7_firstFault_22 : decode cX7_firstFault 22 = .ok (.aload_n 0, 1) := by decide +kernel
theorem dX7_firstFault_23 : decode cX7_firstFault 23 = .ok (.iconst 1, 1) := by decide +kernel
theorem dX7_firstFault_24 : decode cX7_firstFault 24 = .ok (.invokevirtual 23, 3) := by decide +kernel
theorem dX7_firstFault_27 : decode cX7_firstFault 27 = .ok (.bipush 49, 2) := by decide +kernel
theorem dX7_firstFault_29 : decode cX7_firstFault 29 = .ok (.if_icmp .eq 5, 3) := by decide +kernel
theorem dX7_firstFault_32 : decode cX7_firstFault 32 = .ok (.iconst 1, 1) := by decide +kernel
theorem dX7_firstFault_33 : decode cX7_firstFault 33 = .ok (.ireturn, 1) := by decide +kernel
theorem dX7_firstFault_34 : decode cX7_firstFault 34 = .ok (.iconst 0, 1) := by decide +kernel
theorem dX7_firstFault_35 : decode cX7_firstFault 35 = .ok (.istore_n 1, 1) := by decide +kernel
theorem dX7_firstFault_36 : decode cX7_firstFault 36 = .ok (.iconst 2, 1) := by decide +kernel
theorem dX7_firstFault_37 : decode cX7_firstFault 37 = .ok (.istore_n 2, 1) := by decide +kernel
theorem dX7_firstFault_38 : decode cX7_firstFault 38 = .ok (.iload_n 2, 1) := by decide +kernel
theorem dX7_firstFault_39 : decode cX7_firstFault 39 = .ok (.aload_n 0, 1) := by decide +kernel
theorem dX7_firstFault_40 : decode cX7_firstFault 40 = .ok (.getfield 15, 3) := by decide +kernel
theorem dX7_firstFault_43 : decode cX7_firstFault 43 = .ok (.if_icmp .ge 32, 3) := by decide +kernel
theorem dX7_firstFault_46 : decode cX7_firstFault 46 = .ok (.aload_n 0, 1) := by decide +kernel
theorem dX7_firstFault_47 : decode cX7_firstFault 47 = .ok (.iload_n 2, 1) := by decide +kernel
theorem dX7_firstFault_48 : decode cX7_firstFault 48 = .ok (.iload_n 1, 1) := by decide +kernel
theorem dX7_firstFault_49 : decode cX7_firstFault 49 = .ok (.invokevirtual 27, 3) := by decide +kernel
theorem dX7_firstFault_52 : decode cX7_firstFault 52 = .ok (.istore_n 3, 1) := by decide +kernel
theorem dX7_firstFault_53 : decode cX7_firstFault 53 = .ok (.iload_n 3, 1) := by decide +kernel
theorem dX7_firstFault_54 : decode cX7_firstFault 54 = .ok (.bipush (-9), 2) := by decide +kernel
theorem dX7_firstFault_56 : decode cX7_firstFault 56 = .ok (.if_icmp .eq 5, 3) := by decide +kernel
theorem dX7_firstFault_59 : decode cX7_firstFault 59 = .ok (.iload_n 3, 1) := by decide +kernel
theorem dX7_firstFault_60 : decode cX7_firstFault 60 = .ok (.ireturn, 1) := by decide +kernel
theorem dX7_firstFault_61 : decode cX7_firstFault 61 = .ok (.iload_n 1, 1) := by decide +kernel
theorem dX7_firstFault_62 : decode cX7_firstFault 62 = .ok (.aload_n 0, 1) := by decide +kernel
theorem dX7_firstFault_63 : decode cX7_firstFault 63 = .ok (.iload_n 2, 1) := by decide +kernel
theorem dX7_firstFault_64 : decode cX7_firstFault 64 = .ok (.invokevirtual 31, 3) := by decide +kernel
theorem dX7_firstFault_67 : decode cX7_firstFault 67 = .ok (.iadd, 1) := by decide +kernel
theorem dX7_firstFault_68 : decode cX7_firstFault 68 = .ok (.istore_n 1, 1) := by decide +kernel
theorem dX7_firstFault_69 : decode cX7_firstFault 69 = .ok (.iinc 2 3, 3) := by decide +kernel
theorem dX7_firstFault_72 : decode cX7_firstFault 72 = .ok (.goto (-34), 3) := by decide +kernel
theorem dX7_firstFault_75 : decode cX7_firstFault 75 = .ok (.bipush (-9), 2) := by decide +kernel
theorem dX7_firstFault_77 : decode cX7_firstFault 77 = .ok (.ireturn, 1) := by decide +kernel
theorem dX7_layOn_0 : decode cX7_layOn 0 = .ok (.aload_n 0, 1) := by decide +kernel
theorem dX7_layOn_1 : decode cX7_layOn 1 = .ok (.iconst 1, 1) := by decide +kernel
theorem dX7_layOn_2 : decode cX7_layOn 2 = .ok (.invokevirtual 23, 3) := by decide +kernel
theorem dX7_layOn_5 : decode cX7_layOn 5 = .ok (.bipush 49, 2) := by decide +kernel
theorem dX7_layOn_7 : decode cX7_layOn 7 = .ok (.if_icmp .ne 7, 3) := by decide +kernel
theorem dX7_layOn_10 : decode cX7_layOn 10 = .ok (.iconst 1, 1) := by decide +kernel
theorem dX7_layOn_11 : decode cX7_layOn 11 = .ok (.goto 4, 3) := by decide +kernel
theorem dX7_layOn_14 : decode cX7_layOn 14 = .ok (.iconst 0, 1) := by decide +kernel
theorem dX7_layOn_15 : decode cX7_layOn 15 = .ok (.istore_n 2, 1) := by decide +kernel
theorem dX7_layOn_16 : decode cX7_layOn 16 = .ok (.aload_n 1, 1) := by decide +kernel
theorem dX7_layOn_17 : decode cX7_layOn 17 = .ok (.sipush 360, 3) := by decide +kernel
theorem dX7_layOn_20 : decode cX7_layOn 20 = .ok (.invokevirtual 34, 3) := by decide +kernel
theorem dX7_layOn_23 : decode cX7_layOn 23 = .ok (.iconst 2, 1) := by decide +kernel
theorem dX7_layOn_24 : decode cX7_layOn 24 = .ok (.istore_n 3, 1) := by decide +kernel
theorem dX7_layOn_25 : decode cX7_layOn 25 = .ok (.iload_n 3, 1) := by decide +kernel
theorem dX7_layOn_26 : decode cX7_layOn 26 = .ok (.aload_n 0, 1) := by decide +kernel
theorem dX7_layOn_27 : decode cX7_layOn 27 = .ok (.getfield 15, 3) := by decide +kernel
theorem dX7_layOn_30 : decode cX7_layOn 30 = .ok (.if_icmp .ge 23, 3) := by decide +kernel
theorem dX7_layOn_33 : decode cX7_layOn 33 = .ok (.aload_n 1, 1) := by decide +kernel
theorem dX7_layOn_34 : decode cX7_layOn 34 = .ok (.iload_n 2, 1) := by decide +kernel
theorem dX7_layOn_35 : decode cX7_layOn 35 = .ok (.aload_n 0, 1) := by decide +kernel
theorem dX7_layOn_36 : decode cX7_layOn 36 = .ok (.iload_n 3, 1) := by decide +kernel
theorem dX7_layOn_37 : decode cX7_layOn 37 = .ok (.invokevirtual 31, 3) := by decide +kernel
theorem dX7_layOn_40 : decode cX7_layOn 40 = .ok (.invokevirtual 40, 3) := by decide +kernel
theorem dX7_layOn_43 : decode cX7_layOn 43 = .ok (.iconst 1, 1) := by decide +kernel
theorem dX7_layOn_44 : decode cX7_layOn 44 = .ok (.iload_n 2, 1) := by decide +kernel
theorem dX7_layOn_45 : decode cX7_layOn 45 = .ok (.isub, 1) := by decide +kernel
theorem dX7_layOn_46 : decode cX7_layOn 46 = .ok (.istore_n 2, 1) := by decide +kernel
theorem dX7_layOn_47 : decode cX7_layOn 47 = .ok (.iinc 3 3, 3) := by decide +kernel
theorem dX7_layOn_50 : decode cX7_layOn 50 = .ok (.goto (-25), 3) := by decide +kernel
theorem dX7_layOn_53 : decode cX7_layOn 53 = .ok (.return_, 1) := by decide +kernel
theorem dX7_faultOfRun_0 : decode cX7_faultOfRun 0 = .ok (.sipush 360, 3) := by decide +kernel
theorem dX7_faultOfRun_3 : decode cX7_faultOfRun 3 = .ok (.iload_n 2, 1) := by decide +kernel
theorem dX7_faultOfRun_4 : decode cX7_faultOfRun 4 = .ok (.isub, 1) := by decide +kernel
theorem dX7_faultOfRun_5 : decode cX7_faultOfRun 5 = .ok (.istore_n 3, 1) := by decide +kernel
theorem dX7_faultOfRun_6 : decode cX7_faultOfRun 6 = .ok (.aload_n 0, 1) := by decide +kernel
theorem dX7_faultOfRun_7 : decode cX7_faultOfRun 7 = .ok (.iload_n 1, 1) := by decide +kernel
theorem dX7_faultOfRun_8 : decode cX7_faultOfRun 8 = .ok (.invokevirtual 23, 3) := by decide +kernel
theorem dX7_faultOfRun_11 : decode cX7_faultOfRun 11 = .ok (.bipush 114, 2) := by decide +kernel
theorem dX7_faultOfRun_13 : decode cX7_faultOfRun 13 = .ok (.if_icmp .ne 8, 3) := by decide +kernel
theorem dX7_faultOfRun_16 : decode cX7_faultOfRun 16 = .ok (.iload_n 3, 1) := by decide +kernel
theorem dX7_faultOfRun_17 : decode cX7_faultOfRun 17 = .ok (.iconst 1, 1) := by decide +kernel
theorem dX7_faultOfRun_18 : decode cX7_faultOfRun 18 = .ok (.if_icmp .ge 5, 3) := by decide +kernel
theorem dX7_faultOfRun_21 : decode cX7_faultOfRun 21 = .ok (.iload_n 1, 1) := by decide +kernel
theorem dX7_faultOfRun_22 : decode cX7_faultOfRun 22 = .ok (.ireturn, 1) := by decide +kernel
theorem dX7_faultOfRun_23 : decode cX7_faultOfRun 23 = .ok (.aload_n 0, 1) := by decide +kernel
theorem dX7_faultOfRun_24 : decode cX7_faultOfRun 24 = .ok (.iload_n 1, 1) := by decide +kernel
theorem dX7_faultOfRun_25 : decode cX7_faultOfRun 25 = .ok (.iconst 1, 1) := by decide +kernel
theorem dX7_faultOfRun_26 : decode cX7_faultOfRun 26 = .ok (.iadd, 1) := by decide +kernel
theorem dX7_faultOfRun_27 : decode cX7_faultOfRun 27 = .ok (.invokevirtual 44, 3) := by decide +kernel
theorem dX7_faultOfRun_30 : decode cX7_faultOfRun 30 = .ok (.istore 4, 2) := by decide +kernel
theorem dX7_faultOfRun_32 : decode cX7_faultOfRun 32 = .ok (.iload 4, 2) := by decide +kernel
theorem dX7_faultOfRun_34 : decode cX7_faultOfRun 34 = .ok (.bipush (-9), 2) := by decide +kernel
theorem dX7_faultOfRun_36 : decode cX7_faultOfRun 36 = .ok (.if_icmp .eq 12, 3) := by decide +kernel
theorem dX7_faultOfRun_39 : decode cX7_faultOfRun 39 = .ok (.bipush 10, 2) := by decide +kernel
theorem dX7_faultOfRun_41 : decode cX7_faultOfRun 41 = .ok (.iload 4, 2) := by decide +kernel
theorem dX7_faultOfRun_43 : decode cX7_faultOfRun 43 = .ok (.imul, 1) := by decide +kernel
theorem dX7_faultOfRun_44 : decode cX7_faultOfRun 44 = .ok (.iload_n 3, 1) := by decide +kernel
theorem dX7_faultOfRun_45 : decode cX7_faultOfRun 45 = .ok (.if_icmp .le 7, 3) := by decide +kernel
theorem dX7_faultOfRun_48 : decode cX7_faultOfRun 48 = .ok (.iload_n 1, 1) := by decide +kernel
theorem dX7_faultOfRun_49 : decode cX7_faultOfRun 49 = .ok (.iconst 1, 1) := by decide +kernel
theorem dX7_faultOfRun_50 : decode cX7_faultOfRun 50 = .ok (.iadd, 1) := by decide +kernel
theorem dX7_faultOfRun_51 : decode cX7_faultOfRun 51 = .ok (.ireturn, 1) := by decide +kernel
theorem dX7_faultOfRun_52 : decode cX7_faultOfRun 52 = .ok (.aload_n 0, 1) := by decide +kernel
theorem dX7_faultOfRun_53 : decode cX7_faultOfRun 53 = .ok (.iload_n 1, 1) := by decide +kernel
theorem dX7_faultOfRun_54 : decode cX7_faultOfRun 54 = .ok (.iconst 2, 1) := by decide +kernel
theorem dX7_faultOfRun_55 : decode cX7_faultOfRun 55 = .ok (.iadd, 1) := by decide +kernel
theorem dX7_faultOfRun_56 : decode cX7_faultOfRun 56 = .ok (.invokevirtual 44, 3) := by decide +kernel
theorem dX7_faultOfRun_59 : decode cX7_faultOfRun 59 = .ok (.istore 5, 2) := by decide +kernel
theorem dX7_faultOfRun_61 : decode cX7_faultOfRun 61 = .ok (.bipush 10, 2) := by decide +kernel
theorem dX7_faultOfRun_63 : decode cX7_faultOfRun 63 = .ok (.iload 4, 2) := by decide +kernel
theorem dX7_faultOfRun_65 : decode cX7_faultOfRun 65 = .ok (.imul, 1) := by decide +kernel
theorem dX7_faultOfRun_66 : decode cX7_faultOfRun 66 = .ok (.iload 5, 2) := by decide +kernel
theorem dX7_faultOfRun_68 : decode cX7_faultOfRun 68 = .ok (.iadd, 1) := by decide +kernel
theorem dX7_faultOfRun_69 : decode cX7_faultOfRun 69 = .ok (.istore 6, 2) := by decide +kernel
theorem dX7_faultOfRun_71 : decode cX7_faultOfRun 71 = .ok (.iload 5, 2) := by decide +kernel
theorem dX7_faultOfRun_73 : decode cX7_faultOfRun 73 = .ok (.bipush (-9), 2) := by decide +kernel
theorem dX7_faultOfRun_75 : decode cX7_faultOfRun 75 = .ok (.if_icmp .eq 15, 3) := by decide +kernel
theorem dX7_faultOfRun_78 : decode cX7_faultOfRun 78 = .ok (.iload 6, 2) := by decide +kernel
theorem dX7_faultOfRun_80 : decode cX7_faultOfRun 80 = .ok (.iconst 1, 1) := by decide +kernel
theorem dX7_faultOfRun_81 : decode cX7_faultOfRun 81 = .ok (.if_icmp .lt 9, 3) := by decide +kernel
theorem dX7_faultOfRun_84 : decode cX7_faultOfRun 84 = .ok (.iload 6, 2) := by decide +kernel
theorem dX7_faultOfRun_86 : decode cX7_faultOfRun 86 = .ok (.iload_n 3, 1) := by decide +kernel
theorem dX7_faultOfRun_87 : decode cX7_faultOfRun 87 = .ok (.if_icmp .le 7, 3) := by decide +kernel
theorem dX7_faultOfRun_90 : decode cX7_faultOfRun 90 = .ok (.iload_n 1, 1) := by decide +kernel
theorem dX7_faultOfRun_91 : decode cX7_faultOfRun 91 = .ok (.iconst 2, 1) := by decide +kernel
theorem dX7_faultOfRun_92 : decode cX7_faultOfRun 92 = .ok (.iadd, 1) := by decide +kernel
theorem dX7_faultOfRun_93 : decode cX7_faultOfRun 93 = .ok (.ireturn, 1) := by decide +kernel
theorem dX7_faultOfRun_94 : decode cX7_faultOfRun 94 = .ok (.bipush (-9), 2) := by decide +kernel
theorem dX7_faultOfRun_96 : decode cX7_faultOfRun 96 = .ok (.ireturn, 1) := by decide +kernel
theorem dX7_ticksToldAt_0 : decode cX7_ticksToldAt 0 = .ok (.bipush 10, 2) := by decide +kernel
theorem dX7_ticksToldAt_2 : decode cX7_ticksToldAt 2 = .ok (.aload_n 0, 1) := by decide +kernel
theorem dX7_ticksToldAt_3 : decode cX7_ticksToldAt 3 = .ok (.iload_n 1, 1) := by decide +kernel
theorem dX7_ticksToldAt_4 : decode cX7_ticksToldAt 4 = .ok (.iconst 1, 1) := by decide +kernel
theorem dX7_ticksToldAt_5 : decode cX7_ticksToldAt 5 = .ok (.iadd, 1) := by decide +kernel
theorem dX7_ticksToldAt_6 : decode cX7_ticksToldAt 6 = .ok (.invokevirtual 44, 3) := by decide +kernel
theorem dX7_ticksToldAt_9 : decode cX7_ticksToldAt 9 = .ok (.imul, 1) := by decide +kernel
theorem dX7_ticksToldAt_10 : decode cX7_ticksToldAt 10 = .ok (.aload_n 0, 1) := by decide +kernel
theorem dX7_ticksToldAt_11 : decode cX7_ticksToldAt 11 = .ok (.iload_n 1, 1) := by decide +kernel
theorem dX7_ticksToldAt_12 : decode cX7_ticksToldAt 12 = .ok (.iconst 2, 1) := by decide +kernel
theorem dX7_ticksToldAt_13 : decode cX7_ticksToldAt 13 = .ok (.iadd, 1) := by decide +kernel
theorem dX7_ticksToldAt_14 : decode cX7_ticksToldAt 14 = .ok (.invokevirtual 44, 3) := by decide +kernel
theorem dX7_ticksToldAt_17 : decode cX7_ticksToldAt 17 = .ok (.iadd, 1) := by decide +kernel
theorem dX7_ticksToldAt_18 : decode cX7_ticksToldAt 18 = .ok (.ireturn, 1) := by decide +kernel
theorem dX7_figureAt_0 : decode cX7_figureAt 0 = .ok (.aload_n 0, 1) := by decide +kernel
theorem dX7_figureAt_1 : decode cX7_figureAt 1 = .ok (.iload_n 1, 1) := by decide +kernel
theorem dX7_figureAt_2 : decode cX7_figureAt 2 = .ok (.invokevirtual 23, 3) := by decide +kernel
theorem dX7_figureAt_5 : decode cX7_figureAt 5 = .ok (.istore_n 2, 1) := by decide +kernel
theorem dX7_figureAt_6 : decode cX7_figureAt 6 = .ok (.iload_n 2, 1) := by decide +kernel
theorem dX7_figureAt_7 : decode cX7_figureAt 7 = .ok (.bipush 48, 2) := by decide +kernel
theorem dX7_figureAt_9 : decode cX7_figureAt 9 = .ok (.if_icmp .lt 16, 3) := by decide +kernel
theorem dX7_figureAt_12 : decode cX7_figureAt 12 = .ok (.iload_n 2, 1) := by decide +kernel
theorem dX7_figureAt_13 : decode cX7_figureAt 13 = .ok (.bipush 57, 2) := by decide +kernel
theorem dX7_figureAt_15 : decode cX7_figureAt 15 = .ok (.if_icmp .gt 10, 3) := by decide +kernel
theorem dX7_figureAt_18 : decode cX7_figureAt 18 = .ok (.iload_n 2, 1) := by decide +kernel
theorem dX7_figureAt_19 : decode cX7_figureAt 19 = .ok (.bipush 48, 2) := by decide +kernel
theorem dX7_figureAt_21 : decode cX7_figureAt 21 = .ok (.isub, 1) := by decide +kernel
theorem dX7_figureAt_22 : decode cX7_figureAt 22 = .ok (.goto 5, 3) := by decide +kernel
theorem dX7_figureAt_25 : decode cX7_figureAt 25 = .ok (.bipush (-9), 2) := by decide +kernel
theorem dX7_figureAt_27 : decode cX7_figureAt 27 = .ok (.ireturn, 1) := by decide +kernel
theorem dX7_signAt_0 : decode cX7_signAt 0 = .ok (.iload_n 1, 1) := by decide +kernel
theorem dX7_signAt_1 : decode cX7_signAt 1 = .ok (.ifCond .lt 20, 3) := by decide +kernel
theorem dX7_signAt_4 : decode cX7_signAt 4 = .ok (.iload_n 1, 1) := by decide +kernel
theorem dX7_signAt_5 : decode cX7_signAt 5 = .ok (.aload_n 0, 1) := by decide +kernel
theorem dX7_signAt_6 : decode cX7_signAt 6 = .ok (.getfield 15, 3) := by decide +kernel
theorem dX7_signAt_9 : decode cX7_signAt 9 = .ok (.if_icmp .ge 12, 3) := by decide +kernel
theorem dX7_signAt_12 : decode cX7_signAt 12 = .ok (.aload_n 0, 1) := by decide +kernel
theorem dX7_signAt_13 : decode cX7_signAt 13 = .ok (.getfield 9, 3) := by decide +kernel
theorem dX7_signAt_16 : decode cX7_signAt 16 = .ok (.iload_n 1, 1) := by decide +kernel
theorem dX7_signAt_17 : decode cX7_signAt 17 = .ok (.iaload, 1) := by decide +kernel
theorem dX7_signAt_18 : decode cX7_signAt 18 = .ok (.goto 5, 3) := by decide +kernel
theorem dX7_signAt_21 : decode cX7_signAt 21 = .ok (.bipush (-9), 2) := by decide +kernel
theorem dX7_signAt_23 : decode cX7_signAt 23 = .ok (.ireturn, 1) := by decide +kernel
theorem dX8_init_0 : decode cX8_init 0 = .ok (.aload_n 0, 1) := by decide +kernel
theorem dX8_init_1 : decode cX8_init 1 = .ok (.invokespecial 3, 3) := by decide +kernel
theorem dX8_init_4 : decode cX8_init 4 = .ok (.aload_n 0, 1) := by decide +kernel
theorem dX8_init_5 : decode cX8_init 5 = .ok (.sipush 360, 3) := by decide +kernel
theorem dX8_init_8 : decode cX8_init 8 = .ok (.newarray .int, 2) := by decide +kernel
theorem dX8_init_10 : decode cX8_init 10 = .ok (.putfield 9, 3) := by decide +kernel
theorem dX8_init_13 : decode cX8_init 13 = .ok (.aload_n 0, 1) := by decide +kernel
theorem dX8_init_14 : decode cX8_init 14 = .ok (.iconst 0, 1) := by decide +kernel
theorem dX8_init_15 : decode cX8_init 15 = .ok (.putfield 15, 3) := by decide +kernel
theorem dX8_init_18 : decode cX8_init 18 = .ok (.return_, 1) := by decide +kernel
theorem dX8_has_0 : decode cX8_has 0 = .ok (.iload_n 1, 1) := by decide +kernel
theorem dX8_has_1 : decode cX8_has 1 = .ok (.ifCond .lt 15, 3) := by decide +kernel
theorem dX8_has_4 : decode cX8_has 4 = .ok (.iload_n 1, 1) := by decide +kernel
theorem dX8_has_5 : decode cX8_has 5 = .ok (.aload_n 0, 1) := by decide +kernel
theorem dX8_has_6 : decode cX8_has 6 = .ok (.getfield 15, 3) := by decide +kernel
theorem dX8_has_9 : decode cX8_has 9 = .ok (.if_icmp .ge 7, 3) := by decide +kernel
theorem dX8_has_12 : decode cX8_has 12 = .ok (.iconst 1, 1) := by decide +kernel
theorem dX8_has_13 : decode cX8_has 13 = .ok (.goto 4, 3) := by decide +kernel
theorem dX8_has_16 : decode cX8_has 16 = .ok (.iconst 0, 1) := by decide +kernel
theorem dX8_has_17 : decode cX8_has 17 = .ok (.ireturn, 1) := by decide +kernel
theorem dX8_hasPlaceFor_0 : decode cX8_hasPlaceFor 0 = .ok (.iload_n 1, 1) := by decide +kernel
theorem dX8_hasPlaceFor_1 : decode cX8_hasPlaceFor 1 = .ok (.sipush 360, 3) := by decide +kernel
theorem dX8_hasPlaceFor_4 : decode cX8_hasPlaceFor 4 = .ok (.aload_n 0, 1) := by decide +kernel
theorem dX8_hasPlaceFor_5 : decode cX8_hasPlaceFor 5 = .ok (.getfield 15, 3) := by decide +kernel
theorem dX8_hasPlaceFor_8 : decode cX8_hasPlaceFor 8 = .ok (.isub, 1) := by decide +kernel
theorem dX8_hasPlaceFor_9 : decode cX8_hasPlaceFor 9 = .ok (.if_icmp .gt 7, 3) := by decide +kernel
theorem dX8_hasPlaceFor_12 : decode cX8_hasPlaceFor 12 = .ok (.iconst 1, 1) := by decide +kernel
theorem dX8_hasPlaceFor_13 : decode cX8_hasPlaceFor 13 = .ok (.goto 4, 3) := by decide +kernel
theorem dX8_hasPlaceFor_16 : decode cX8_hasPlaceFor 16 = .ok (.iconst 0, 1) := by decide +kernel
theorem dX8_hasPlaceFor_17 : decode cX8_hasPlaceFor 17 = .ok (.ireturn, 1) := by decide +kernel
theorem dX8_levelAt_0 : decode cX8_levelAt 0 = .ok (.iload_n 1, 1) := by decide +kernel
theorem dX8_levelAt_1 : decode cX8_levelAt 1 = .ok (.ifCond .lt 20, 3) := by decide +kernel
theorem dX8_levelAt_4 : decode cX8_levelAt 4 = .ok (.iload_n 1, 1) := by decide +kernel
theorem dX8_levelAt_5 : decode cX8_levelAt 5 = .ok (.aload_n 0, 1) := by decide +kernel
theorem dX8_levelAt_6 : decode cX8_levelAt 6 = .ok (.getfield 15, 3) := by decide +kernel
theorem dX8_levelAt_9 : decode cX8_levelAt 9 = .ok (.if_icmp .ge 12, 3) := by decide +kernel
theorem dX8_levelAt_12 : decode cX8_levelAt 12 = .ok (.aload_n 0, 1) := by decide +kernel
theorem dX8_levelAt_13 : decode cX8_levelAt 13 = .ok (.getfield 9, 3) := by decide +kernel
theorem dX8_levelAt_16 : decode cX8_levelAt 16 = .ok (.iload_n 1, 1) := by decide +kernel
theorem dX8_levelAt_17 : decode cX8_levelAt 17 = .ok (.iaload, 1) := by decide +kernel
theorem dX8_levelAt_18 : decode cX8_levelAt 18 = .ok (.goto 5, 3) := by decide +kernel
theorem dX8_levelAt_21 : decode cX8_levelAt 21 = .ok (.bipush (-9), 2) := by decide +kernel
theorem dX8_levelAt_23 : decode cX8_levelAt 23 = .ok (.ireturn, 1) := by decide +kernel
theorem dX8_isEdge_0 : decode cX8_isEdge 0 = .ok (.iload_n 1, 1) := by decide +kernel
theorem dX8_isEdge_1 : decode cX8_isEdge 1 = .ok (.ifCond .le 32, 3) := by decide +kernel
theorem dX8_isEdge_4 : decode cX8_isEdge 4 = .ok (.iload_n 1, 1) := by decide +kernel
theorem dX8_isEdge_5 : decode cX8_isEdge 5 = .ok (.aload_n 0, 1) := by decide +kernel
theorem dX8_isEdge_6 : decode cX8_isEdge 6 = .ok (.getfield 15, 3) := by decide +kernel
theorem dX8_isEdge_9 : decode cX8_isEdge 9 = .ok (.if_icmp .ge 24, 3) := by decide +kernel
theorem dX8_isEdge_12 : decode cX8_isEdge 12 = .ok (.aload_n 0, 1) := by decide +kernel
theorem dX8_isEdge_13 : decode cX8_isEdge 13 = .ok (.getfield 9, 3) := by decide +kernel
theorem dX8_isEdge_16 : decode cX8_isEdge 16 = .ok (.iload_n 1, 1) := by decide +kernel
theorem dX8_isEdge_17 : decode cX8_isEdge 17 = .ok (.iaload, 1) := by decide +kernel
theorem dX8_isEdge_18 : decode cX8_isEdge 18 = .ok (.aload_n 0, 1) := by decide +kernel
theorem dX8_isEdge_19 : decode cX8_isEdge 19 = .ok (.getfield 9, 3) := by decide +kernel
theorem dX8_isEdge_22 : decode cX8_isEdge 22 = .ok (.iload_n 1, 1) := by decide +kernel
theorem dX8_isEdge_23 : decode cX8_isEdge 23 = .ok (.iconst 1, 1) := by decide +kernel
theorem dX8_isEdge_24 : decode cX8_isEdge 24 = .ok (.isub, 1) := by decide +kernel
theorem dX8_isEdge_25 : decode cX8_isEdge 25 = .ok (.iaload, 1) := by decide +kernel
theorem dX8_isEdge_26 : decode cX8_isEdge 26 = .ok (.if_icmp .eq 7, 3) := by decide +kernel
theorem dX8_isEdge_29 : decode cX8_isEdge 29 = .ok (.iconst 1, 1) := by decide +kernel
theorem dX8_isEdge_30 : decode cX8_isEdge 30 = .ok (.goto 4, 3) := by decide +kernel
theorem dX8_isEdge_33 : decode cX8_isEdge 33 = .ok (.iconst 0, 1) := by decide +kernel
theorem dX8_isEdge_34 : decode cX8_isEdge 34 = .ok (.ireturn, 1) := by decide +kernel
theorem dX8_extend_0 : decode cX8_extend 0 = .ok (.iconst 0, 1) := by decide +kernel
theorem dX8_extend_1 : decode cX8_extend 1 = .ok (.istore_n 3, 1) := by decide +kernel
theorem dX8_extend_2 : decode cX8_extend 2 = .ok (.iload_n 3, 1) := by decide +kernel
theorem dX8_extend_3 : decode cX8_extend 3 = .ok (.iload_n 2, 1) := by decide +kernel
theorem dX8_extend_4 : decode cX8_extend 4 = .ok (.if_icmp .ge 39, 3) := by decide +kernel
theorem dX8_extend_7 : decode cX8_extend 7 = .ok (.aload_n 0, 1) := by decide +kernel
theorem dX8_extend_8 : decode cX8_extend 8 = .ok (.getfield 15, 3) := by decide +kernel
theorem dX8_extend_11 : decode cX8_extend 11 = .ok (.sipush 360, 3) := by decide +kernel
theorem dX8_extend_14 : decode cX8_extend 14 = .ok (.if_icmp .ge 29, 3) := by decide +kernel
theorem dX8_extend_17 : decode cX8_extend 17 = .ok (.aload_n 0, 1) := by decide +kernel
theorem dX8_extend_18 : decode cX8_extend 18 = .ok (.getfield 9, 3) := by decide +kernel
theorem dX8_extend_21 : decode cX8_extend 21 = .ok (.aload_n 0, 1) := by decide +kernel
theorem dX8_extend_22 : decode cX8_extend 22 = .ok (.getfield 15, 3) := by decide +kernel
theorem dX8_extend_25 : decode cX8_extend 25 = .ok (.iload_n 1, 1) := by decide +kernel
theorem dX8_extend_26 : decode cX8_extend 26 = .ok (.iastore, 1) := by decide +kernel
theorem dX8_extend_27 : decode cX8_extend 27 = .ok (.aload_n 0, 1) := by decide +kernel
theorem dX8_extend_28 : decode cX8_extend 28 = .ok (.dup, 1) := by decide +kernel
theorem dX8_extend_29 : decode cX8_extend 29 = .ok (.getfield 15, 3) := by decide +kernel
theorem dX8_extend_32 : decode cX8_extend 32 = .ok (.iconst 1, 1) := by decide +kernel
theorem dX8_extend_33 : decode cX8_extend 33 = .ok (.iadd, 1) := by decide +kernel
theorem dX8_extend_34 : decode cX8_extend 34 = .ok (.putfield 15, 3) := by decide +kernel
theorem dX8_extend_37 : decode cX8_extend 37 = .ok (.iinc 3 1, 3) := by decide +kernel
theorem dX8_extend_40 : decode cX8_extend 40 = .ok (.goto (-38), 3) := by decide +kernel
theorem dX8_extend_43 : decode cX8_extend 43 = .ok (.return_, 1) := by decide +kernel
theorem dX8_extendByLetter_0 : decode cX8_extendByLetter 0 = .ok (.aload_n 1, 1) := by decide +kernel
theorem dX8_extendByLetter_1 : decode cX8_extendByLetter 1 = .ok (.getfield 19, 3) := by decide +kernel
theorem dX8_extendByLetter_4 : decode cX8_extendByLetter 4 = .ok (.istore_n 3, 1) := by decide +kernel
theorem dX8_extendByLetter_5 : decode cX8_extendByLetter 5 = .ok (.iconst 0, 1) := by decide +kernel
theorem dX8_extendByLetter_6 : decode cX8_extendByLetter 6 = .ok (.istore 4, 2) := by decide +kernel
theorem dX8_extendByLetter_8 : decode cX8_extendByLetter 8 = .ok (.aload_n 0, 1) := by decide +kernel
theorem dX8_extendByLetter_9 : decode cX8_extendByLetter 9 = .ok (.aload_n 1, 1) := by decide +kernel
theorem dX8_extendByLetter_10 : decode cX8_extendByLetter 10 = .ok (.getfield 24, 3) := by decide +kernel
theorem dX8_extendByLetter_13 : decode cX8_extendByLetter 13 = .ok (.iload_n 3, 1) := by decide +kernel
theorem dX8_extendByLetter_14 : decode cX8_extendByLetter 14 = .ok (.invokevirtual 27, 3) := by decide +kernel
theorem dX8_extendByLetter_17 : decode cX8_extendByLetter 17 = .ok (.aload_n 0, 1) := by decide +kernel
theorem dX8_extendByLetter_18 : decode cX8_extendByLetter 18 = .ok (.iconst 1, 1) := by decide +kernel
theorem dX8_extendByLetter_19 : decode cX8_extendByLetter 19 = .ok (.aload_n 1, 1) := by decide +kernel
theorem dX8_extendByLetter_20 : decode cX8_extendByLetter 20 = .ok (.getfield 24, 3) := by decide +kernel
theorem dX8_extendByLetter_23 : decode cX8_extendByLetter 23 = .ok (.isub, 1) := by decide +kernel
theorem dX8_extendByLetter_24 : decode cX8_extendByLetter 24 = .ok (.iload_n 3, 1) := by decide +kernel
theorem dX8_extendByLetter_25 : decode cX8_extendByLetter 25 = .ok (.invokevirtual 27, 3) := by decide +kernel
theorem dX8_extendByLetter_28 : decode cX8_extendByLetter 28 = .ok (.iconst 0, 1) := by decide +kernel
theorem dX8_extendByLetter_29 : decode cX8_extendByLetter 29 = .ok (.istore 5, 2) := by decide +kernel
theorem dX8_extendByLetter_31 : decode cX8_extendByLetter 31 = .ok (.iload 5, 2) := by decide +kernel
theorem dX8_extendByLetter_33 : decode cX8_extendByLetter 33 = .ok (.aload_n 1, 1) := by decide +kernel
theorem dX8_extendByLetter_34 : decode cX8_extendByLetter 34 = .ok (.getfield 31, 3) := by decide +kernel
theorem dX8_extendByLetter_37 : decode cX8_extendByLetter 37 = .ok (.if_icmp .ge 35, 3) := by decide +kernel
theorem dX8_extendByLetter_40 : decode cX8_extendByLetter 40 = .ok (.iload_n 2, 1) := by decide +kernel
theorem dX8_extendByLetter_41 : decode cX8_extendByLetter 41 = .ok (.iload 5, 2) := by decide +kernel
theorem dX8_extendByLetter_43 : decode cX8_extendByLetter 43 = .ok (.ishr, 1) := by decide +kernel
theorem dX8_extendByLetter_44 : decode cX8_extendByLetter 44 = .ok (.iconst 1, 1) := by decide +kernel
theorem dX8_extendByLetter_45 : decode cX8_extendByLetter 45 = .ok (.iand, 1) := by decide +kernel
theorem dX8_extendByLetter_46 : decode cX8_extendByLetter 46 = .ok (.istore 6, 2) := by decide +kernel
theorem dX8_extendByLetter_48 : decode cX8_extendByLetter 48 = .ok (.iload 4, 2) := by decide +kernel
theorem dX8_extendByLetter_50 : decode cX8_extendByLetter 50 = .ok (.iload 6, 2) := by decide +kernel
theorem dX8_extendByLetter_52 : decode cX8_extendByLetter 52 = .ok (.iadd, 1) := by decide +kernel
theorem dX8_extendByLetter_53 : decode cX8_extendByLetter 53 = .ok (.istore 4, 2) := by decide +kernel
theorem dX8_extendByLetter_55 : decode cX8_extendByLetter 55 = .ok (.aload_n 0, 1) := by decide +kernel
theorem dX8_extendByLetter_56 : decode cX8_extendByLetter 56 = .ok (.aload_n 1, 1) := by decide +kernel
theorem dX8_extendByLetter_57 : decode cX8_extendByLetter 57 = .ok (.iload 6, 2) := by decide +kernel
theorem dX8_extendByLetter_59 : decode cX8_extendByLetter 59 = .ok (.invokevirtual 34, 3) := by decide +kernel
theorem dX8_extendByLetter_62 : decode cX8_extendByLetter 62 = .ok (.iload_n 3, 1) := by decide +kernel
theorem dX8_extendByLetter_63 : decode cX8_extendByLetter 63 = .ok (.invokevirtual 27, 3) := by decide +kernel
theorem dX8_extendByLetter_66 : decode cX8_extendByLetter 66 = .ok (.iinc 5 1, 3) := by decide +kernel
theorem dX8_extendByLetter_69 : decode cX8_extendByLetter 69 = .ok (.goto (-38), 3) := by decide +kernel
theorem dX8_extendByLetter_72 : decode cX8_extendByLetter 72 = .ok (.aload_n 1, 1) := by decide +kernel
theorem dX8_extendByLetter_73 : decode cX8_extendByLetter 73 = .ok (.getfield 38, 3) := by decide +kernel
theorem dX8_extendByLetter_76 : decode cX8_extendByLetter 76 = .ok (.ifCond .eq 18, 3) := by decide +kernel
theorem dX8_extendByLetter_79 : decode cX8_extendByLetter 79 = .ok (.aload_n 0, 1) := by decide +kernel
theorem dX8_extendByLetter_80 : decode cX8_extendByLetter 80 = .ok (.aload_n 1, 1) := by decide +kernel
theorem dX8_extendByLetter_81 : decode cX8_extendByLetter 81 = .ok (.aload_n 1, 1) := by decide +kernel
theorem dX8_extendByLetter_82 : decode cX8_extendByLetter 82 = .ok (.iload 4, 2) := by decide +kernel
theorem dX8_extendByLetter_84 : decode cX8_extendByLetter 84 = .ok (.invokevirtual 41, 3) := by decide +kernel
theorem dX8_extendByLetter_87 : decode cX8_extendByLetter 87 = .ok (.invokevirtual 34, 3) := by decide +kernel
theorem dX8_extendByLetter_90 : decode cX8_extendByLetter 90 = .ok (.iload_n 3, 1) := by decide +kernel
theorem dX8_extendByLetter_91 : decode cX8_extendByLetter 91 = .ok (.invokevirtual 27, 3) := by decide +kernel
theorem dX8_extendByLetter_94 : decode cX8_extendByLetter 94 = .ok (.aload_n 0, 1) := by decide +kernel
theorem dX8_extendByLetter_95 : decode cX8_extendByLetter 95 = .ok (.aload_n 1, 1) := by decide +kernel
theorem dX8_extendByLetter_96 : decode cX8_extendByLetter 96 = .ok (.getfield 24, 3) := by decide +kernel
theorem dX8_extendByLetter_99 : decode cX8_extendByLetter 99 = .ok (.aload_n 1, 1) := by decide +kernel
theorem dX8_extendByLetter_100 : decode cX8_extendByLetter 100 = .ok (.getfield 44, 3) := by decide +kernel
theorem dX8_extendByLetter_103 : decode cX8_extendByLetter 103 = .ok (.iload_n 3, 1) := by decide +kernel
theorem dX8_extendByLetter_104 : decode cX8_extendByLetter 104 = .ok (.imul, 1) := by decide +kernel
