theorem dX10_isAsBest_20 : decode cX10_isAsBest 20 = .ok (.aload_n 0, 1) := by decide +kernel
theorem dX10_isAsBest_21 : decode cX10_isAsBest 21 = .ok (.getfield 125, 3) := by decide +kernel
theorem dX10_isAsBest_24 : decode cX10_isAsBest 24 = .ok (.if_icmp .ge 34, 3) := by decide +kernel
theorem dX10_isAsBest_27 : decode cX10_isAsBest 27 = .ok (.iload_n 1, 1) := by decide +kernel
theorem dX10_isAsBest_28 : decode cX10_isAsBest 28 = .ok (.ifCond .eq 30, 3) := by decide +kernel
theorem dX10_isAsBest_31 : decode cX10_isAsBest 31 = .ok (.aload_n 0, 1) := by decide +kernel
theorem dX10_isAsBest_32 : decode cX10_isAsBest 32 = .ok (.getfield 35, 3) := by decide +kernel
theorem dX10_isAsBest_35 : decode cX10_isAsBest 35 = .ok (.iload_n 2, 1) := by decide +kernel
theorem dX10_isAsBest_36 : decode cX10_isAsBest 36 = .ok (.iaload, 1) := by decide +kernel
theorem dX10_isAsBest_37 : decode cX10_isAsBest 37 = .ok (.aload_n 0, 1) := by decide +kernel
theorem dX10_isAsBest_38 : decode cX10_isAsBest 38 = .ok (.getfield 41, 3) := by decide +kernel
theorem dX10_isAsBest_41 : decode cX10_isAsBest 41 = .ok (.iload_n 2, 1) := by decide +kernel
theorem dX10_isAsBest_42 : decode cX10_isAsBest 42 = .ok (.iaload, 1) := by decide +kernel
theorem dX10_isAsBest_43 : decode cX10_isAsBest 43 = .ok (.if_icmp .ne 7, 3) := by decide +kernel
theorem dX10_isAsBest_46 : decode cX10_isAsBest 46 = .ok (.iconst 1, 1) := by decide +kernel
theorem dX10_isAsBest_47 : decode cX10_isAsBest 47 = .ok (.goto 4, 3) := by decide +kernel
theorem dX10_isAsBest_50 : decode cX10_isAsBest 50 = .ok (.iconst 0, 1) := by decide +kernel
theorem dX10_isAsBest_51 : decode cX10_isAsBest 51 = .ok (.istore_n 1, 1) := by decide +kernel
theorem dX10_isAsBest_52 : decode cX10_isAsBest 52 = .ok (.iinc 2 1, 3) := by decide +kernel
theorem dX10_isAsBest_55 : decode cX10_isAsBest 55 = .ok (.goto (-36), 3) := by decide +kernel
theorem dX10_isAsBest_58 : decode cX10_isAsBest 58 = .ok (.iload_n 1, 1) := by decide +kernel
theorem dX10_isAsBest_59 : decode cX10_isAsBest 59 = .ok (.ireturn, 1) := by decide +kernel
theorem dX10_best_0 : decode cX10_best 0 = .ok (.aload_n 0, 1) := by decide +kernel
theorem dX10_best_1 : decode cX10_best 1 = .ok (.aload_n 1, 1) := by decide +kernel
theorem dX10_best_2 : decode cX10_best 2 = .ok (.invokevirtual 141, 3) := by decide +kernel
theorem dX10_best_5 : decode cX10_best 5 = .ok (.bipush (-9), 2) := by decide +kernel
theorem dX10_best_7 : decode cX10_best 7 = .ok (.istore_n 2, 1) := by decide +kernel
theorem dX10_best_8 : decode cX10_best 8 = .ok (.iconst 0, 1) := by decide +kernel
theorem dX10_best_9 : decode cX10_best 9 = .ok (.istore_n 3, 1) := by decide +kernel
theorem dX10_best_10 : decode cX10_best 10 = .ok (.aload_n 0, 1) := by decide +kernel
theorem dX10_best_11 : decode cX10_best 11 = .ok (.iconst 0, 1) := by decide +kernel
theorem dX10_best_12 : decode cX10_best 12 = .ok (.putfield 145, 3) := by decide +kernel
theorem dX10_best_15 : decode cX10_best 15 = .ok (.aload_n 0, 1) := by decide +kernel
theorem dX10_best_16 : decode cX10_best 16 = .ok (.iconst 0, 1) := by decide +kernel
theorem dX10_best_17 : decode cX10_best 17 = .ok (.putfield 138, 3) := by decide +kernel
theorem dX10_best_20 : decode cX10_best 20 = .ok (.iconst 0, 1) := by decide +kernel
theorem dX10_best_21 : decode cX10_best 21 = .ok (.istore 4, 2) := by decide +kernel
theorem dX10_best_23 : decode cX10_best 23 = .ok (.iload 4, 2) := by decide +kernel
theorem dX10_best_25 : decode cX10_best 25 = .ok (.sipush 768, 3) := by decide +kernel
theorem dX10_best_28 : decode cX10_best 28 = .ok (.if_icmp .ge 131, 3) := by decide +kernel
theorem dX10_best_31 : decode cX10_best 31 = .ok (.aload_n 0, 1) := by decide +kernel
theorem dX10_best_32 : decode cX10_best 32 = .ok (.iload 4, 2) := by decide +kernel
theorem dX10_best_34 : decode cX10_best 34 = .ok (.invokestatic 148, 3) := by decide +kernel
theorem dX10_best_37 : decode cX10_best 37 = .ok (.invokevirtual 152, 3) := by decide +kernel
theorem dX10_best_40 : decode cX10_best 40 = .ok (.istore 5, 2) := by decide +kernel
theorem dX10_best_42 : decode cX10_best 42 = .ok (.aload_n 0, 1) := by decide +kernel
theorem dX10_best_43 : decode cX10_best 43 = .ok (.aload_n 1, 1) := by decide +kernel
theorem dX10_best_44 : decode cX10_best 44 = .ok (.invokevirtual 155, 3) := by decide +kernel
theorem dX10_best_47 : decode cX10_best 47 = .ok (.iload 5, 2) := by decide +kernel
theorem dX10_best_49 : decode cX10_best 49 = .ok (.ifCond .eq 104, 3) := by decide +kernel
theorem dX10_best_52 : decode cX10_best 52 = .ok (.aload_n 0, 1) := by decide +kernel
theorem dX10_best_53 : decode cX10_best 53 = .ok (.invokevirtual 158, 3) := by decide +kernel
theorem dX10_best_56 : decode cX10_best 56 = .ok (.ifCond .eq 97, 3) := by decide +kernel
theorem dX10_best_59 : decode cX10_best 59 = .ok (.aload_n 0, 1) := by decide +kernel
theorem dX10_best_60 : decode cX10_best 60 = .ok (.dup, 1) := by decide +kernel
theorem dX10_best_61 : decode cX10_best 61 = .ok (.getfield 145, 3) := by decide +kernel
theorem dX10_best_64 : decode cX10_best 64 = .ok (.iconst 1, 1) := by decide +kernel
theorem dX10_best_65 : decode cX10_best 65 = .ok (.iadd, 1) := by decide +kernel
theorem dX10_best_66 : decode cX10_best 66 = .ok (.putfield 145, 3) := by decide +kernel
theorem dX10_best_69 : decode cX10_best 69 = .ok (.iload_n 2, 1) := by decide +kernel
theorem dX10_best_70 : decode cX10_best 70 = .ok (.bipush (-9), 2) := by decide +kernel
theorem dX10_best_72 : decode cX10_best 72 = .ok (.if_icmp .eq 30, 3) := by decide +kernel
theorem dX10_best_75 : decode cX10_best 75 = .ok (.aload_n 0, 1) := by decide +kernel
theorem dX10_best_76 : decode cX10_best 76 = .ok (.getfield 111, 3) := by decide +kernel
theorem dX10_best_79 : decode cX10_best 79 = .ok (.iload_n 3, 1) := by decide +kernel
theorem dX10_best_80 : decode cX10_best 80 = .ok (.if_icmp .gt 22, 3) := by decide +kernel
theorem dX10_best_83 : decode cX10_best 83 = .ok (.aload_n 0, 1) := by decide +kernel
theorem dX10_best_84 : decode cX10_best 84 = .ok (.getfield 111, 3) := by decide +kernel
theorem dX10_best_87 : decode cX10_best 87 = .ok (.iload_n 3, 1) := by decide +kernel
theorem dX10_best_88 : decode cX10_best 88 = .ok (.if_icmp .ne 65, 3) := by decide +kernel
theorem dX10_best_91 : decode cX10_best 91 = .ok (.aload_n 0, 1) := by decide +kernel
theorem dX10_best_92 : decode cX10_best 92 = .ok (.getfield 125, 3) := by decide +kernel
theorem dX10_best_95 : decode cX10_best 95 = .ok (.aload_n 0, 1) := by decide +kernel
theorem dX10_best_96 : decode cX10_best 96 = .ok (.getfield 138, 3) := by decide +kernel
theorem dX10_best_99 : decode cX10_best 99 = .ok (.if_icmp .le 54, 3) := by decide +kernel
theorem dX10_best_102 : decode cX10_best 102 = .ok (.iload 4, 2) := by decide +kernel
theorem dX10_best_104 : decode cX10_best 104 = .ok (.invokestatic 148, 3) := by decide +kernel
theorem dX10_best_107 : decode cX10_best 107 = .ok (.istore_n 2, 1) := by decide +kernel
theorem dX10_best_108 : decode cX10_best 108 = .ok (.aload_n 0, 1) := by decide +kernel
theorem dX10_best_109 : decode cX10_best 109 = .ok (.getfield 111, 3) := by decide +kernel
theorem dX10_best_112 : decode cX10_best 112 = .ok (.istore_n 3, 1) := by decide +kernel
theorem dX10_best_113 : decode cX10_best 113 = .ok (.aload_n 0, 1) := by decide +kernel
theorem dX10_best_114 : decode cX10_best 114 = .ok (.aload_n 0, 1) := by decide +kernel
theorem dX10_best_115 : decode cX10_best 115 = .ok (.getfield 125, 3) := by decide +kernel
theorem dX10_best_118 : decode cX10_best 118 = .ok (.putfield 138, 3) := by decide +kernel
theorem dX10_best_121 : decode cX10_best 121 = .ok (.iconst 0, 1) := by decide +kernel
theorem dX10_best_122 : decode cX10_best 122 = .ok (.istore 6, 2) := by decide +kernel
theorem dX10_best_124 : decode cX10_best 124 = .ok (.iload 6, 2) := by decide +kernel
theorem dX10_best_126 : decode cX10_best 126 = .ok (.aload_n 0, 1) := by decide +kernel
theorem dX10_best_127 : decode cX10_best 127 = .ok (.getfield 125, 3) := by decide +kernel
theorem dX10_best_130 : decode cX10_best 130 = .ok (.if_icmp .ge 23, 3) := by decide +kernel
theorem dX10_best_133 : decode cX10_best 133 = .ok (.aload_n 0, 1) := by decide +kernel
theorem dX10_best_134 : decode cX10_best 134 = .ok (.getfield 41, 3) := by decide +kernel
theorem dX10_best_137 : decode cX10_best 137 = .ok (.iload 6, 2) := by decide +kernel
theorem dX10_best_139 : decode cX10_best 139 = .ok (.aload_n 0, 1) := by decide +kernel
theorem dX10_best_140 : decode cX10_best 140 = .ok (.getfield 35, 3) := by decide +kernel
theorem dX10_best_143 : decode cX10_best 143 = .ok (.iload 6, 2) := by decide +kernel
theorem dX10_best_145 : decode cX10_best 145 = .ok (.iaload, 1) := by decide +kernel
theorem dX10_best_146 : decode cX10_best 146 = .ok (.iastore, 1) := by decide +kernel
theorem dX10_best_147 : decode cX10_best 147 = .ok (.iinc 6 1, 3) := by decide +kernel
theorem dX10_best_150 : decode cX10_best 150 = .ok (.goto (-26), 3) := by decide +kernel
theorem dX10_best_153 : decode cX10_best 153 = .ok (.iinc 4 1, 3) := by decide +kernel
theorem dX10_best_156 : decode cX10_best 156 = .ok (.goto (-133), 3) := by decide +kernel
theorem dX10_best_159 : decode cX10_best 159 = .ok (.iload_n 2, 1) := by decide +kernel
theorem dX10_best_160 : decode cX10_best 160 = .ok (.ireturn, 1) := by decide +kernel
theorem dX10_alikes_0 : decode cX10_alikes 0 = .ok (.aload_n 0, 1) := by decide +kernel
theorem dX10_alikes_1 : decode cX10_alikes 1 = .ok (.iconst 0, 1) := by decide +kernel
theorem dX10_alikes_2 : decode cX10_alikes 2 = .ok (.putfield 162, 3) := by decide +kernel
theorem dX10_alikes_5 : decode cX10_alikes 5 = .ok (.aload_n 0, 1) := by decide +kernel
theorem dX10_alikes_6 : decode cX10_alikes 6 = .ok (.aload_n 0, 1) := by decide +kernel
theorem dX10_alikes_7 : decode cX10_alikes 7 = .ok (.getfield 13, 3) := by decide +kernel
theorem dX10_alikes_10 : decode cX10_alikes 10 = .ok (.invokevirtual 165, 3) := by decide +kernel
theorem dX10_alikes_13 : decode cX10_alikes 13 = .ok (.istore_n 1, 1) := by decide +kernel
theorem dX10_alikes_14 : decode cX10_alikes 14 = .ok (.iconst 0, 1) := by decide +kernel
theorem dX10_alikes_15 : decode cX10_alikes 15 = .ok (.istore_n 2, 1) := by decide +kernel
theorem dX10_alikes_16 : decode cX10_alikes 16 = .ok (.iload_n 2, 1) := by decide +kernel
theorem dX10_alikes_17 : decode cX10_alikes 17 = .ok (.sipush 768, 3) := by decide +kernel
theorem dX10_alikes_20 : decode cX10_alikes 20 = .ok (.if_icmp .ge 64, 3) := by decide +kernel
theorem dX10_alikes_23 : decode cX10_alikes 23 = .ok (.iload_n 1, 1) := by decide +kernel
theorem dX10_alikes_24 : decode cX10_alikes 24 = .ok (.bipush (-9), 2) := by decide +kernel
theorem dX10_alikes_26 : decode cX10_alikes 26 = .ok (.if_icmp .eq 58, 3) := by decide +kernel
theorem dX10_alikes_29 : decode cX10_alikes 29 = .ok (.aload_n 0, 1) := by decide +kernel
theorem dX10_alikes_30 : decode cX10_alikes 30 = .ok (.iload_n 2, 1) := by decide +kernel
theorem dX10_alikes_31 : decode cX10_alikes 31 = .ok (.invokestatic 148, 3) := by decide +kernel
theorem dX10_alikes_34 : decode cX10_alikes 34 = .ok (.invokevirtual 152, 3) := by decide +kernel
theorem dX10_alikes_37 : decode cX10_alikes 37 = .ok (.istore_n 3, 1) := by decide +kernel
theorem dX10_alikes_38 : decode cX10_alikes 38 = .ok (.aload_n 0, 1) := by decide +kernel
theorem dX10_alikes_39 : decode cX10_alikes 39 = .ok (.aload_n 0, 1) := by decide +kernel
theorem dX10_alikes_40 : decode cX10_alikes 40 = .ok (.getfield 13, 3) := by decide +kernel
theorem dX10_alikes_43 : decode cX10_alikes 43 = .ok (.invokevirtual 155, 3) := by decide +kernel
theorem dX10_alikes_46 : decode cX10_alikes 46 = .ok (.aload_n 0, 1) := by decide +kernel
theorem dX10_alikes_47 : decode cX10_alikes 47 = .ok (.dup, 1) := by decide +kernel
theorem dX10_alikes_48 : decode cX10_alikes 48 = .ok (.getfield 162, 3) := by decide +kernel
theorem dX10_alikes_51 : decode cX10_alikes 51 = .ok (.iload_n 3, 1) := by decide +kernel
theorem dX10_alikes_52 : decode cX10_alikes 52 = .ok (.ifCond .eq 21, 3) := by decide +kernel
theorem dX10_alikes_55 : decode cX10_alikes 55 = .ok (.aload_n 0, 1) := by decide +kernel
theorem dX10_alikes_56 : decode cX10_alikes 56 = .ok (.invokevirtual 158, 3) := by decide +kernel
theorem dX10_alikes_59 : decode cX10_alikes 59 = .ok (.ifCond .eq 14, 3) := by decide +kernel
theorem dX10_alikes_62 : decode cX10_alikes 62 = .ok (.aload_n 0, 1) := by decide +kernel
theorem dX10_alikes_63 : decode cX10_alikes 63 = .ok (.invokevirtual 169, 3) := by decide +kernel
theorem dX10_alikes_66 : decode cX10_alikes 66 = .ok (.ifCond .eq 7, 3) := by decide +kernel
theorem dX10_alikes_69 : decode cX10_alikes 69 = .ok (.iconst 1, 1) := by decide +kernel
theorem dX10_alikes_70 : decode cX10_alikes 70 = .ok (.goto 4, 3) := by decide +kernel
theorem dX10_alikes_73 : decode cX10_alikes 73 = .ok (.iconst 0, 1) := by decide +kernel
theorem dX10_alikes_74 : decode cX10_alikes 74 = .ok (.iadd, 1) := by decide +kernel
theorem dX10_alikes_75 : decode cX10_alikes 75 = .ok (.putfield 162, 3) := by decide +kernel
theorem dX10_alikes_78 : decode cX10_alikes 78 = .ok (.iinc 2 1, 3) := by decide +kernel
theorem dX10_alikes_81 : decode cX10_alikes 81 = .ok (.goto (-65), 3) := by decide +kernel
theorem dX10_alikes_84 : decode cX10_alikes 84 = .ok (.aload_n 0, 1) := by decide +kernel
theorem dX10_alikes_85 : decode cX10_alikes 85 = .ok (.getfield 162, 3) := by decide +kernel
theorem dX10_alikes_88 : decode cX10_alikes 88 = .ok (.ireturn, 1) := by decide +kernel
theorem dX10_edges_0 : decode cX10_edges 0 = .ok (.iconst 0, 1) := by decide +kernel
theorem dX10_edges_1 : decode cX10_edges 1 = .ok (.istore_n 1, 1) := by decide +kernel
theorem dX10_edges_2 : decode cX10_edges 2 = .ok (.iconst 1, 1) := by decide +kernel
theorem dX10_edges_3 : decode cX10_edges 3 = .ok (.istore_n 2, 1) := by decide +kernel
theorem dX10_edges_4 : decode cX10_edges 4 = .ok (.iload_n 2, 1) := by decide +kernel
theorem dX10_edges_5 : decode cX10_edges 5 = .ok (.aload_n 0, 1) := by decide +kernel
theorem dX10_edges_6 : decode cX10_edges 6 = .ok (.sipush 360, 3) := by decide +kernel
theorem dX10_edges_9 : decode cX10_edges 9 = .ok (.iaload, 1) := by decide +kernel
theorem dX10_edges_10 : decode cX10_edges 10 = .ok (.if_icmp .ge 28, 3) := by decide +kernel
theorem dX10_edges_13 : decode cX10_edges 13 = .ok (.iload_n 1, 1) := by decide +kernel
theorem dX10_edges_14 : decode cX10_edges 14 = .ok (.aload_n 0, 1) := by decide +kernel
theorem dX10_edges_15 : decode cX10_edges 15 = .ok (.iload_n 2, 1) := by decide +kernel
theorem dX10_edges_16 : decode cX10_edges 16 = .ok (.iaload, 1) := by decide +kernel
theorem dX10_edges_17 : decode cX10_edges 17 = .ok (.aload_n 0, 1) := by decide +kernel
theorem dX10_edges_18 : decode cX10_edges 18 = .ok (.iload_n 2, 1) := by decide +kernel
theorem dX10_edges_19 : decode cX10_edges 19 = .ok (.iconst 1, 1) := by decide +kernel
theorem dX10_edges_20 : decode cX10_edges 20 = .ok (.isub, 1) := by decide +kernel
theorem dX10_edges_21 : decode cX10_edges 21 = .ok (.iaload, 1) := by decide +kernel
theorem dX10_edges_22 : decode cX10_edges 22 = .ok (.if_icmp .eq 7, 3) := by decide +kernel
theorem dX10_edges_25 : decode cX10_edges 25 = .ok (.iconst 1, 1) := by decide +kernel
theorem dX10_edges_26 : decode cX10_edges 26 = .ok (.goto 4, 3) := by decide +kernel
theorem dX10_edges_29 : decode cX10_edges 29 = .ok (.iconst 0, 1) := by decide +kernel
theorem dX10_edges_30 : decode cX10_edges 30 = .ok (.iadd, 1) := by decide +kernel
theorem dX10_edges_31 : decode cX10_edges 31 = .ok (.istore_n 1, 1) := by decide +kernel
theorem dX10_edges_32 : decode cX10_edges 32 = .ok (.iinc 2 1, 3) := by decide +kernel
theorem dX10_edges_35 : decode cX10_edges 35 = .ok (.goto (-31), 3) := by decide +kernel
theorem dX10_edges_38 : decode cX10_edges 38 = .ok (.iload_n 1, 1) := by decide +kernel
theorem dX10_edges_39 : decode cX10_edges 39 = .ok (.ireturn, 1) := by decide +kernel
theorem dX10_runOf_0 : decode cX10_runOf 0 = .ok (.iconst 0, 1) := by decide +kernel
theorem dX10_runOf_1 : decode cX10_runOf 1 = .ok (.istore_n 2, 1) := by decide +kernel
theorem dX10_runOf_2 : decode cX10_runOf 2 = .ok (.iconst 0, 1) := by decide +kernel
theorem dX10_runOf_3 : decode cX10_runOf 3 = .ok (.istore_n 3, 1) := by decide +kernel
theorem dX10_runOf_4 : decode cX10_runOf 4 = .ok (.iconst 0, 1) := by decide +kernel
theorem dX10_runOf_5 : decode cX10_runOf 5 = .ok (.istore 4, 2) := by decide +kernel
theorem dX10_runOf_7 : decode cX10_runOf 7 = .ok (.iload 4, 2) := by decide +kernel
theorem dX10_runOf_9 : decode cX10_runOf 9 = .ok (.aload_n 0, 1) := by decide +kernel
theorem dX10_runOf_10 : decode cX10_runOf 10 = .ok (.getfield 13, 3) := by decide +kernel
theorem dX10_runOf_13 : decode cX10_runOf 13 = .ok (.sipush 360, 3) := by decide +kernel
theorem dX10_runOf_16 : decode cX10_runOf 16 = .ok (.iaload, 1) := by decide +kernel
theorem dX10_runOf_17 : decode cX10_runOf 17 = .ok (.if_icmp .ge 54, 3) := by decide +kernel
theorem dX10_runOf_20 : decode cX10_runOf 20 = .ok (.iload_n 2, 1) := by decide +kernel
theorem dX10_runOf_21 : decode cX10_runOf 21 = .ok (.iload 4, 2) := by decide +kernel
theorem dX10_runOf_23 : decode cX10_runOf 23 = .ok (.ifCond .le 26, 3) := by decide +kernel
theorem dX10_runOf_26 : decode cX10_runOf 26 = .ok (.aload_n 0, 1) := by decide +kernel
theorem dX10_runOf_27 : decode cX10_runOf 27 = .ok (.getfield 13, 3) := by decide +kernel
theorem dX10_runOf_30 : decode cX10_runOf 30 = .ok (.iload 4, 2) := by decide +kernel
theorem dX10_runOf_32 : decode cX10_runOf 32 = .ok (.iaload, 1) := by decide +kernel
theorem dX10_runOf_33 : decode cX10_runOf 33 = .ok (.aload_n 0, 1) := by decide +kernel
theorem dX10_runOf_34 : decode cX10_runOf 34 = .ok (.getfield 13, 3) := by decide +kernel
theorem dX10_runOf_37 : decode cX10_runOf 37 = .ok (.iload 4, 2) := by decide +kernel
theorem dX10_runOf_39 : decode cX10_runOf 39 = .ok (.iconst 1, 1) := by decide +kernel
theorem dX10_runOf_40 : decode cX10_runOf 40 = .ok (.isub, 1) := by decide +kernel
theorem dX10_runOf_41 : decode cX10_runOf 41 = .ok (.iaload, 1) := by decide +kernel
theorem dX10_runOf_42 : decode cX10_runOf 42 = .ok (.if_icmp .eq 7, 3) := by decide +kernel
theorem dX10_runOf_45 : decode cX10_runOf 45 = .ok (.iconst 1, 1) := by decide +kernel
theorem dX10_runOf_46 : decode cX10_runOf 46 = .ok (.goto 4, 3) := by decide +kernel
theorem dX10_runOf_49 : decode cX10_runOf 49 = .ok (.iconst 0, 1) := by decide +kernel
theorem dX10_runOf_50 : decode cX10_runOf 50 = .ok (.iadd, 1) := by decide +kernel
theorem dX10_runOf_51 : decode cX10_runOf 51 = .ok (.istore_n 2, 1) := by decide +kernel
theorem dX10_runOf_52 : decode cX10_runOf 52 = .ok (.iload_n 3, 1) := by decide +kernel
theorem dX10_runOf_53 : decode cX10_runOf 53 = .ok (.iload_n 2, 1) := by decide +kernel
theorem dX10_runOf_54 : decode cX10_runOf 54 = .ok (.iload_n 1, 1) := by decide +kernel
theorem dX10_runOf_55 : decode cX10_runOf 55 = .ok (.if_icmp .ne 7, 3) := by decide +kernel
theorem dX10_runOf_58 : decode cX10_runOf 58 = .ok (.iconst 1, 1) := by decide +kernel
theorem dX10_runOf_59 : decode cX10_runOf 59 = .ok (.goto 4, 3) := by decide +kernel
theorem dX10_runOf_62 : decode cX10_runOf 62 = .ok (.iconst 0, 1) := by decide +kernel
theorem dX10_runOf_63 : decode cX10_runOf 63 = .ok (.iadd, 1) := by decide +kernel
theorem dX10_runOf_64 : decode cX10_runOf 64 = .ok (.istore_n 3, 1) := by decide +kernel
theorem dX10_runOf_65 : decode cX10_runOf 65 = .ok (.iinc 4 1, 3) := by decide +kernel
theorem dX10_runOf_68 : decode cX10_runOf 68 = .ok (.goto (-61), 3) := by decide +kernel
theorem dX10_runOf_71 : decode cX10_runOf 71 = .ok (.iload_n 3, 1) := by decide +kernel
theorem dX10_runOf_72 : decode cX10_runOf 72 = .ok (.ireturn, 1) := by decide +kernel
theorem dX10_offOf_0 : decode cX10_offOf 0 = .ok (.iload_n 0, 1) := by decide +kernel
theorem dX10_offOf_1 : decode cX10_offOf 1 = .ok (.iload_n 1, 1) := by decide +kernel
theorem dX10_offOf_2 : decode cX10_offOf 2 = .ok (.irem, 1) := by decide +kernel
theorem dX10_offOf_3 : decode cX10_offOf 3 = .ok (.istore_n 2, 1) := by decide +kernel
theorem dX10_offOf_4 : decode cX10_offOf 4 = .ok (.iload_n 0, 1) := by decide +kernel
theorem dX10_offOf_5 : decode cX10_offOf 5 = .ok (.iload_n 1, 1) := by decide +kernel
theorem dX10_offOf_6 : decode cX10_offOf 6 = .ok (.if_icmp .ge 9, 3) := by decide +kernel
theorem dX10_offOf_9 : decode cX10_offOf 9 = .ok (.iload_n 1, 1) := by decide +kernel
theorem dX10_offOf_10 : decode cX10_offOf 10 = .ok (.iload_n 0, 1) := by decide +kernel
theorem dX10_offOf_11 : decode cX10_offOf 11 = .ok (.isub, 1) := by decide +kernel
theorem dX10_offOf_12 : decode cX10_offOf 12 = .ok (.goto 4, 3) := by decide +kernel
theorem dX10_offOf_15 : decode cX10_offOf 15 = .ok (.iload_n 2, 1) := by decide +kernel
theorem dX10_offOf_16 : decode cX10_offOf 16 = .ok (.istore_n 3, 1) := by decide +kernel
theorem dX10_offOf_17 : decode cX10_offOf 17 = .ok (.iload_n 0, 1) := by decide +kernel
theorem dX10_offOf_18 : decode cX10_offOf 18 = .ok (.iload_n 1, 1) := by decide +kernel
theorem dX10_offOf_19 : decode cX10_offOf 19 = .ok (.if_icmp .ge 9, 3) := by decide +kernel
theorem dX10_offOf_22 : decode cX10_offOf 22 = .ok (.iload_n 1, 1) := by decide +kernel
theorem dX10_offOf_23 : decode cX10_offOf 23 = .ok (.iload_n 0, 1) := by decide +kernel
theorem dX10_offOf_24 : decode cX10_offOf 24 = .ok (.isub, 1) := by decide +kernel
theorem dX10_offOf_25 : decode cX10_offOf 25 = .ok (.goto 6, 3) := by decide +kernel
theorem dX10_offOf_28 : decode cX10_offOf 28 = .ok (.iload_n 1, 1) := by decide +kernel
theorem dX10_offOf_29 : decode cX10_offOf 29 = .ok (.iload_n 2, 1) := by decide +kernel
theorem dX10_offOf_30 : decode cX10_offOf 30 = .ok (.isub, 1) := by decide +kernel
theorem dX10_offOf_31 : decode cX10_offOf 31 = .ok (.istore 4, 2) := by decide +kernel
theorem dX10_offOf_33 : decode cX10_offOf 33 = .ok (.iload_n 3, 1) := by decide +kernel
theorem dX10_offOf_34 : decode cX10_offOf 34 = .ok (.iload 4, 2) := by decide +kernel
theorem dX10_offOf_36 : decode cX10_offOf 36 = .ok (.if_icmp .ge 7, 3) := by decide +kernel
theorem dX10_offOf_39 : decode cX10_offOf 39 = .ok (.iload_n 3, 1) := by decide +kernel
theorem dX10_offOf_40 : decode cX10_offOf 40 = .ok (.goto 5, 3) := by decide +kernel
theorem dX10_offOf_43 : decode cX10_offOf 43 = .ok (.iload 4, 2) := by decide +kernel
theorem dX10_offOf_45 : decode cX10_offOf 45 = .ok (.ireturn, 1) := by decide +kernel
theorem dX10_offBy_0 : decode cX10_offBy 0 = .ok (.iconst 0, 1) := by decide +kernel
theorem dX10_offBy_1 : decode cX10_offBy 1 = .ok (.istore_n 2, 1) := by decide +kernel
theorem dX10_offBy_2 : decode cX10_offBy 2 = .ok (.aload_n 0, 1) := by decide +kernel
theorem dX10_offBy_3 : decode cX10_offBy 3 = .ok (.getfield 13, 3) := by decide +kernel
theorem dX10_offBy_6 : decode cX10_offBy 6 = .ok (.invokestatic 172, 3) := by decide +kernel
theorem dX10_offBy_9 : decode cX10_offBy 9 = .ok (.istore_n 3, 1) := by decide +kernel
theorem dX10_offBy_10 : decode cX10_offBy 10 = .ok (.iconst 1, 1) := by decide +kernel
theorem dX10_offBy_11 : decode cX10_offBy 11 = .ok (.istore 4, 2) := by decide +kernel
theorem dX10_offBy_13 : decode cX10_offBy 13 = .ok (.iload 4, 2) := by decide +kernel
theorem dX10_offBy_15 : decode cX10_offBy 15 = .ok (.iload_n 3, 1) := by decide +kernel
theorem dX10_offBy_16 : decode cX10_offBy 16 = .ok (.if_icmp .ge 22, 3) := by decide +kernel
theorem dX10_offBy_19 : decode cX10_offBy 19 = .ok (.iload_n 2, 1) := by decide +kernel
theorem dX10_offBy_20 : decode cX10_offBy 20 = .ok (.aload_n 0, 1) := by decide +kernel
theorem dX10_offBy_21 : decode cX10_offBy 21 = .ok (.iload 4, 2) := by decide +kernel
theorem dX10_offBy_23 : decode cX10_offBy 23 = .ok (.invokevirtual 175, 3) := by decide +kernel
theorem dX10_offBy_26 : decode cX10_offBy 26 = .ok (.iload_n 1, 1) := by decide +kernel
theorem dX10_offBy_27 : decode cX10_offBy 27 = .ok (.invokestatic 178, 3) := by decide +kernel
theorem dX10_offBy_30 : decode cX10_offBy 30 = .ok (.iadd, 1) := by decide +kernel
theorem dX10_offBy_31 : decode cX10_offBy 31 = .ok (.istore_n 2, 1) := by decide +kernel
theorem dX10_offBy_32 : decode cX10_offBy 32 = .ok (.iinc 4 1, 3) := by decide +kernel
theorem dX10_offBy_35 : decode cX10_offBy 35 = .ok (.goto (-22), 3) := by decide +kernel
theorem dX10_offBy_38 : decode cX10_offBy 38 = .ok (.iload_n 2, 1) := by decide +kernel
theorem dX10_offBy_39 : decode cX10_offBy 39 = .ok (.ireturn, 1) := by decide +kernel
theorem dX10_width_0 : decode cX10_width 0 = .ok (.iconst 1, 1) := by decide +kernel
theorem dX10_width_1 : decode cX10_width 1 = .ok (.istore_n 1, 1) := by decide +kernel
theorem dX10_width_2 : decode cX10_width 2 = .ok (.aload_n 0, 1) := by decide +kernel
theorem dX10_width_3 : decode cX10_width 3 = .ok (.iconst 1, 1) := by decide +kernel
theorem dX10_width_4 : decode cX10_width 4 = .ok (.invokevirtual 182, 3) := by decide +kernel
theorem dX10_width_7 : decode cX10_width 7 = .ok (.istore_n 2, 1) := by decide +kernel
theorem dX10_width_8 : decode cX10_width 8 = .ok (.iconst 2, 1) := by decide +kernel
theorem dX10_width_9 : decode cX10_width 9 = .ok (.istore_n 3, 1) := by decide +kernel
theorem dX10_width_10 : decode cX10_width 10 = .ok (.iload_n 3, 1) := by decide +kernel
theorem dX10_width_11 : decode cX10_width 11 = .ok (.bipush 17, 2) := by decide +kernel
theorem dX10_width_13 : decode cX10_width 13 = .ok (.if_icmp .ge 41, 3) := by decide +kernel
theorem dX10_width_16 : decode cX10_width 16 = .ok (.aload_n 0, 1) := by decide +kernel
theorem dX10_width_17 : decode cX10_width 17 = .ok (.iload_n 3, 1) := by decide +kernel
theorem dX10_width_18 : decode cX10_width 18 = .ok (.invokevirtual 182, 3) := by decide +kernel
theorem dX10_width_21 : decode cX10_width 21 = .ok (.istore 4, 2) := by decide +kernel
theorem dX10_width_23 : decode cX10_width 23 = .ok (.iload 4, 2) := by decide +kernel
theorem dX10_width_25 : decode cX10_width 25 = .ok (.iload_n 2, 1) := by decide +kernel
theorem dX10_width_26 : decode cX10_width 26 = .ok (.if_icmp .gt 7, 3) := by decide +kernel
theorem dX10_width_29 : decode cX10_width 29 = .ok (.iload_n 3, 1) := by decide +kernel
theorem dX10_width_30 : decode cX10_width 30 = .ok (.goto 4, 3) := by decide +kernel
theorem dX10_width_33 : decode cX10_width 33 = .ok (.iload_n 1, 1) := by decide +kernel
theorem dX10_width_34 : decode cX10_width 34 = .ok (.istore_n 1, 1) := by decide +kernel
theorem dX10_width_35 : decode cX10_width 35 = .ok (.iload 4, 2) := by decide +kernel
theorem dX10_width_37 : decode cX10_width 37 = .ok (.iload_n 2, 1) := by decide +kernel
theorem dX10_width_38 : decode cX10_width 38 = .ok (.if_icmp .gt 8, 3) := by decide +kernel
theorem dX10_width_41 : decode cX10_width 41 = .ok (.iload 4, 2) := by decide +kernel
theorem dX10_width_43 : decode cX10_width 43 = .ok (.goto 4, 3) := by decide +kernel
theorem dX10_width_46 : decode cX10_width 46 = .ok (.iload_n 2, 1) := by decide +kernel
theorem dX10_width_47 : decode cX10_width 47 = .ok (.istore_n 2, 1) := by decide +kernel
theorem dX10_width_48 : decode cX10_width 48 = .ok (.iinc 3 1, 3) := by decide +kernel
theorem dX10_width_51 : decode cX10_width 51 = .ok (.goto (-41), 3) := by decide +kernel
theorem dX10_width_54 : decode cX10_width 54 = .ok (.iload_n 1, 1) := by decide +kernel
theorem dX10_width_55 : decode cX10_width 55 = .ok (.ireturn, 1) := by decide +kernel
theorem dX10_isSo_0 : decode cX10_isSo 0 = .ok (.iconst 1, 1) := by decide +kernel
theorem dX10_isSo_1 : decode cX10_isSo 1 = .ok (.istore_n 2, 1) := by decide +kernel
theorem dX10_isSo_2 : decode cX10_isSo 2 = .ok (.iconst 0, 1) := by decide +kernel
theorem dX10_isSo_3 : decode cX10_isSo 3 = .ok (.istore_n 3, 1) := by decide +kernel
theorem dX10_isSo_4 : decode cX10_isSo 4 = .ok (.iload_n 3, 1) := by decide +kernel
theorem dX10_isSo_5 : decode cX10_isSo 5 = .ok (.aload_n 0, 1) := by decide +kernel
theorem dX10_isSo_6 : decode cX10_isSo 6 = .ok (.getfield 185, 3) := by decide +kernel
theorem dX10_isSo_9 : decode cX10_isSo 9 = .ok (.if_icmp .ge 72, 3) := by decide +kernel
theorem dX10_isSo_12 : decode cX10_isSo 12 = .ok (.aload_n 0, 1) := by decide +kernel
theorem dX10_isSo_13 : decode cX10_isSo 13 = .ok (.getfield 29, 3) := by decide +kernel
theorem dX10_isSo_16 : decode cX10_isSo 16 = .ok (.iload_n 3, 1) := by decide +kernel
theorem dX10_isSo_17 : decode cX10_isSo 17 = .ok (.iaload, 1) := by decide +kernel
theorem dX10_isSo_18 : decode cX10_isSo 18 = .ok (.aload_n 0, 1) := by decide +kernel
theorem dX10_isSo_19 : decode cX10_isSo 19 = .ok (.getfield 125, 3) := by decide +kernel
theorem dX10_isSo_22 : decode cX10_isSo 22 = .ok (.if_icmp .ge 27, 3) := by decide +kernel
theorem dX10_isSo_25 : decode cX10_isSo 25 = .ok (.aload_n 0, 1) := by decide +kernel
theorem dX10_isSo_26 : decode cX10_isSo 26 = .ok (.getfield 35, 3) := by decide +kernel
theorem dX10_isSo_29 : decode cX10_isSo 29 = .ok (.aload_n 0, 1) := by decide +kernel
theorem dX10_isSo_30 : decode cX10_isSo 30 = .ok (.getfield 29, 3) := by decide +kernel
theorem dX10_isSo_33 : decode cX10_isSo 33 = .ok (.iload_n 3, 1) := by decide +kernel
theorem dX10_isSo_34 : decode cX10_isSo 34 = .ok (.iaload, 1) := by decide +kernel
theorem dX10_isSo_35 : decode cX10_isSo 35 = .ok (.iaload, 1) := by decide +kernel
theorem dX10_isSo_36 : decode cX10_isSo 36 = .ok (.aload_n 0, 1) := by decide +kernel
theorem dX10_isSo_37 : decode cX10_isSo 37 = .ok (.getfield 32, 3) := by decide +kernel
theorem dX10_isSo_40 : decode cX10_isSo 40 = .ok (.iload_n 3, 1) := by decide +kernel
theorem dX10_isSo_41 : decode cX10_isSo 41 = .ok (.iaload, 1) := by decide +kernel
theorem dX10_isSo_42 : decode cX10_isSo 42 = .ok (.if_icmp .ne 7, 3) := by decide +kernel
theorem dX10_isSo_45 : decode cX10_isSo 45 = .ok (.iconst 1, 1) := by decide +kernel
theorem dX10_isSo_46 : decode cX10_isSo 46 = .ok (.goto 4, 3) := by decide +kernel
theorem dX10_isSo_49 : decode cX10_isSo 49 = .ok (.iconst 0, 1) := by decide +kernel
theorem dX10_isSo_50 : decode cX10_isSo 50 = .ok (.istore 4, 2) := by decide +kernel
theorem dX10_isSo_52 : decode cX10_isSo 52 = .ok (.iload_n 2, 1) := by decide +kernel
theorem dX10_isSo_53 : decode cX10_isSo 53 = .ok (.ifCond .eq 20, 3) := by decide +kernel
theorem dX10_isSo_56 : decode cX10_isSo 56 = .ok (.iload_n 1, 1) := by decide +kernel
theorem dX10_isSo_57 : decode cX10_isSo 57 = .ok (.iload_n 3, 1) := by decide +kernel
theorem dX10_isSo_58 : decode cX10_isSo 58 = .ok (.ishr, 1) := by decide +kernel
theorem dX10_isSo_59 : decode cX10_isSo 59 = .ok (.iconst 1, 1) := by decide +kernel
theorem dX10_isSo_60 : decode cX10_isSo 60 = .ok (.iand, 1) := by decide +kernel
theorem dX10_isSo_61 : decode cX10_isSo 61 = .ok (.ifCond .eq 8, 3) := by decide +kernel
theorem dX10_isSo_64 : decode cX10_isSo 64 = .ok (.iload 4, 2) := by decide +kernel
theorem dX10_isSo_66 : decode cX10_isSo 66 = .ok (.ifCond .eq 7, 3) := by decide +kernel
theorem dX10_isSo_69 : decode cX10_isSo 69 = .ok (.iconst 1, 1) := by decide +kernel
theorem dX10_isSo_70 : decode cX10_isSo 70 = .ok (.goto 4, 3) := by decide +kernel
theorem dX10_isSo_73 : decode cX10_isSo 73 = .ok (.iconst 0, 1) := by decide +kernel
theorem dX10_isSo_74 : decode cX10_isSo 74 = .ok (.istore_n 2, 1) := by decide +kernel
theorem dX10_isSo_75 : decode cX10_isSo 75 = .ok (.iinc 3 1, 3) := by decide +kernel
theorem dX10_isSo_78 : decode cX10_isSo 78 = .ok (.goto (-74), 3) := by decide +kernel
theorem dX10_isSo_81 : decode cX10_isSo 81 = .ok (.iload_n 2, 1) := by decide +kernel
theorem dX10_isSo_82 : decode cX10_isSo 82 = .ok (.ireturn, 1) := by decide +kernel
theorem dX10_left_0 : decode cX10_left 0 = .ok (.iconst 0, 1) := by decide +kernel
theorem dX10_left_1 : decode cX10_left 1 = .ok (.istore_n 3, 1) := by decide +kernel
theorem dX10_left_2 : decode cX10_left 2 = .ok (.bipush (-9), 2) := by decide +kernel
theorem dX10_left_4 : decode cX10_left 4 = .ok (.istore 4, 2) := by decide +kernel
theorem dX10_left_6 : decode cX10_left 6 = .ok (.iconst 0, 1) := by decide +kernel
theorem dX10_left_7 : decode cX10_left 7 = .ok (.istore 5, 2) := by decide +kernel
theorem dX10_left_9 : decode cX10_left 9 = .ok (.iload 5, 2) := by decide +kernel
theorem dX10_left_11 : decode cX10_left 11 = .ok (.sipush 768, 3) := by decide +kernel
theorem dX10_left_14 : decode cX10_left 14 = .ok (.if_icmp .ge 67, 3) := by decide +kernel
theorem dX10_left_17 : decode cX10_left 17 = .ok (.aload_n 0, 1) := by decide +kernel
theorem dX10_left_18 : decode cX10_left 18 = .ok (.iload 5, 2) := by decide +kernel
theorem dX10_left_20 : decode cX10_left 20 = .ok (.invokestatic 148, 3) := by decide +kernel
theorem dX10_left_23 : decode cX10_left 23 = .ok (.invokevirtual 152, 3) := by decide +kernel
theorem dX10_left_26 : decode cX10_left 26 = .ok (.istore 6, 2) := by decide +kernel
theorem dX10_left_28 : decode cX10_left 28 = .ok (.aload_n 0, 1) := by decide +kernel
theorem dX10_left_29 : decode cX10_left 29 = .ok (.aload_n 0, 1) := by decide +kernel
theorem dX10_left_30 : decode cX10_left 30 = .ok (.getfield 13, 3) := by decide +kernel
theorem dX10_left_33 : decode cX10_left 33 = .ok (.invokevirtual 155, 3) := by decide +kernel
theorem dX10_left_36 : decode cX10_left 36 = .ok (.iload 6, 2) := by decide +kernel
theorem dX10_left_38 : decode cX10_left 38 = .ok (.ifCond .eq 37, 3) := by decide +kernel
theorem dX10_left_41 : decode cX10_left 41 = .ok (.aload_n 0, 1) := by decide +kernel
theorem dX10_left_42 : decode cX10_left 42 = .ok (.invokevirtual 158, 3) := by decide +kernel
theorem dX10_left_45 : decode cX10_left 45 = .ok (.ifCond .eq 30, 3) := by decide +kernel
theorem dX10_left_48 : decode cX10_left 48 = .ok (.aload_n 0, 1) := by decide +kernel
theorem dX10_left_49 : decode cX10_left 49 = .ok (.iload_n 1, 1) := by decide +kernel
theorem dX10_left_50 : decode cX10_left 50 = .ok (.invokevirtual 188, 3) := by decide +kernel
theorem dX10_left_53 : decode cX10_left 53 = .ok (.ifCond .eq 22, 3) := by decide +kernel
theorem dX10_left_56 : decode cX10_left 56 = .ok (.iload_n 3, 1) := by decide +kernel
theorem dX10_left_57 : decode cX10_left 57 = .ok (.ifCond .ne 11, 3) := by decide +kernel
theorem dX10_left_60 : decode cX10_left 60 = .ok (.iload 5, 2) := by decide +kernel
theorem dX10_left_62 : decode cX10_left 62 = .ok (.invokestatic 148, 3) := by decide +kernel
theorem dX10_left_65 : decode cX10_left 65 = .ok (.goto 5, 3) := by decide +kernel
theorem dX10_left_68 : decode cX10_left 68 = .ok (.iload 4, 2) := by decide +kernel
theorem dX10_left_70 : decode cX10_left 70 = .ok (.istore 4, 2) := by decide +kernel
theorem dX10_left_72 : decode cX10_left 72 = .ok (.iinc 3 1, 3) := by decide +kernel
theorem dX10_left_75 : decode cX10_left 75 = .ok (.iinc 5 1, 3) := by decide +kernel
theorem dX10_left_78 : decode cX10_left 78 = .ok (.goto (-69), 3) := by decide +kernel
theorem dX10_left_81 : decode cX10_left 81 = .ok (.iload_n 2, 1) := by decide +kernel
theorem dX10_left_82 : decode cX10_left 82 = .ok (.ifCond .eq 8, 3) := by decide +kernel
theorem dX10_left_85 : decode cX10_left 85 = .ok (.iload 4, 2) := by decide +kernel
theorem dX10_left_87 : decode cX10_left 87 = .ok (.goto 4, 3) := by decide +kernel
theorem dX10_left_90 : decode cX10_left 90 = .ok (.iload_n 3, 1) := by decide +kernel
theorem dX10_left_91 : decode cX10_left 91 = .ok (.ireturn, 1) := by decide +kernel
theorem dX10_fit_0 : decode cX10_fit 0 = .ok (.aload_n 0, 1) := by decide +kernel
theorem dX10_fit_1 : decode cX10_fit 1 = .ok (.aload_n 0, 1) := by decide +kernel
theorem dX10_fit_2 : decode cX10_fit 2 = .ok (.getfield 13, 3) := by decide +kernel
theorem dX10_fit_5 : decode cX10_fit 5 = .ok (.invokevirtual 165, 3) := by decide +kernel
theorem dX10_fit_8 : decode cX10_fit 8 = .ok (.istore_n 1, 1) := by decide +kernel
theorem dX10_fit_9 : decode cX10_fit 9 = .ok (.aload_n 0, 1) := by decide +kernel
theorem dX10_fit_10 : decode cX10_fit 10 = .ok (.getfield 145, 3) := by decide +kernel
theorem dX10_fit_13 : decode cX10_fit 13 = .ok (.ireturn, 1) := by decide +kernel
theorem dX10_about_0 : decode cX10_about 0 = .ok (.iload_n 1, 1) := by decide +kernel
theorem dX10_about_1 : decode cX10_about 1 = .ok (.tableswitch 131 0 10 #[59, 68, 76, 81, 90, 95, 100, 108, 116, 121, 126], 59) := by decide +kernel
theorem dX10_about_60 : decode cX10_about 60 = .ok (.aload_n 0, 1) := by decide +kernel
theorem dX10_about_61 : decode cX10_about 61 = .ok (.getfield 13, 3) := by decide +kernel
theorem dX10_about_64 : decode cX10_about 64 = .ok (.sipush 360, 3) := by decide +kernel
theorem dX10_about_67 : decode cX10_about 67 = .ok (.iaload, 1) := by decide +kernel
theorem dX10_about_68 : decode cX10_about 68 = .ok (.ireturn, 1) := by decide +kernel
theorem dX10_about_69 : decode cX10_about 69 = .ok (.aload_n 0, 1) := by decide +kernel
theorem dX10_about_70 : decode cX10_about 70 = .ok (.getfield 13, 3) := by decide +kernel
theorem dX10_about_73 : decode cX10_about 73 = .ok (.invokestatic 172, 3) := by decide +kernel
theorem dX10_about_76 : decode cX10_about 76 = .ok (.ireturn, 1) := by decide +kernel
theorem dX10_about_77 : decode cX10_about 77 = .ok (.aload_n 0, 1) := by decide +kernel
theorem dX10_about_78 : decode cX10_about 78 = .ok (.invokevirtual 191, 3) := by decide +kernel
theorem dX10_about_81 : decode cX10_about 81 = .ok (.ireturn, 1) := by decide +kernel
theorem dX10_about_82 : decode cX10_about 82 = .ok (.aload_n 0, 1) := by decide +kernel
theorem dX10_about_83 : decode cX10_about 83 = .ok (.aload_n 0, 1) := by decide +kernel
theorem dX10_about_84 : decode cX10_about 84 = .ok (.getfield 13, 3) := by decide +kernel
theorem dX10_about_87 : decode cX10_about 87 = .ok (.invokevirtual 165, 3) := by decide +kernel
theorem dX10_about_90 : decode cX10_about 90 = .ok (.ireturn, 1) := by decide +kernel
theorem dX10_about_91 : decode cX10_about 91 = .ok (.aload_n 0, 1) := by decide +kernel
theorem dX10_about_92 : decode cX10_about 92 = .ok (.invokevirtual 194, 3) := by decide +kernel
theorem dX10_about_95 : decode cX10_about 95 = .ok (.ireturn, 1) := by decide +kernel
theorem dX10_about_96 : decode cX10_about 96 = .ok (.aload_n 0, 1) := by decide +kernel
theorem dX10_about_97 : decode cX10_about 97 = .ok (.invokevirtual 197, 3) := by decide +kernel
theorem dX10_about_100 : decode cX10_about 100 = .ok (.ireturn, 1) := by decide +kernel
theorem dX10_about_101 : decode cX10_about 101 = .ok (.aload_n 0, 1) := by decide +kernel
theorem dX10_about_102 : decode cX10_about 102 = .ok (.bipush 31, 2) := by decide +kernel
theorem dX10_about_104 : decode cX10_about 104 = .ok (.iconst 0, 1) := by decide +kernel
theorem dX10_about_105 : decode cX10_about 105 = .ok (.invokevirtual 200, 3) := by decide +kernel
theorem dX10_about_108 : decode cX10_about 108 = .ok (.ireturn, 1) := by decide +kernel
theorem dX10_about_109 : decode cX10_about 109 = .ok (.aload_n 0, 1) := by decide +kernel
theorem dX10_about_110 : decode cX10_about 110 = .ok (.bipush 31, 2) := by decide +kernel
theorem dX10_about_112 : decode cX10_about 112 = .ok (.iconst 1, 1) := by decide +kernel
theorem dX10_about_113 : decode cX10_about 113 = .ok (.invokevirtual 200, 3) := by decide +kernel
theorem dX10_about_116 : decode cX10_about 116 = .ok (.ireturn, 1) := by decide +kernel
theorem dX10_about_117 : decode cX10_about 117 = .ok (.aload_n 0, 1) := by decide +kernel
theorem dX10_about_118 : decode cX10_about 118 = .ok (.getfield 85, 3) := by decide +kernel
theorem dX10_about_121 : decode cX10_about 121 = .ok (.ireturn, 1) := by decide +kernel
theorem dX10_about_122 : decode cX10_about 122 = .ok (.aload_n 0, 1) := by decide +kernel
theorem dX10_about_123 : decode cX10_about 123 = .ok (.getfield 185, 3) := by decide +kernel
theorem dX10_about_126 : decode cX10_about 126 = .ok (.ireturn, 1) := by decide +kernel
theorem dX10_about_127 : decode cX10_about 127 = .ok (.aload_n 0, 1) := by decide +kernel
theorem dX10_about_128 : decode cX10_about 128 = .ok (.getfield 59, 3) := by decide +kernel
theorem dX10_about_131 : decode cX10_about 131 = .ok (.ireturn, 1) := by decide +kernel
theorem dX10_about_132 : decode cX10_about 132 = .ok (.bipush (-2), 2) := by decide +kernel
theorem dX10_about_134 : decode cX10_about 134 = .ok (.ireturn, 1) := by decide +kernel
theorem dX10_level_0 : decode cX10_level 0 = .ok (.aload_n 0, 1) := by decide +kernel
theorem dX10_level_1 : decode cX10_level 1 = .ok (.getfield 13, 3) := by decide +kernel
theorem dX10_level_4 : decode cX10_level 4 = .ok (.iload_n 1, 1) := by decide +kernel
theorem dX10_level_5 : decode cX10_level 5 = .ok (.invokestatic 117, 3) := by decide +kernel
theorem dX10_level_8 : decode cX10_level 8 = .ok (.ifCond .eq 12, 3) := by decide +kernel
theorem dX10_level_11 : decode cX10_level 11 = .ok (.aload_n 0, 1) := by decide +kernel
theorem dX10_level_12 : decode cX10_level 12 = .ok (.getfield 13, 3) := by decide +kernel
theorem dX10_level_15 : decode cX10_level 15 = .ok (.iload_n 1, 1) := by decide +kernel
theorem dX10_level_16 : decode cX10_level 16 = .ok (.iaload, 1) := by decide +kernel
theorem dX10_level_17 : decode cX10_level 17 = .ok (.goto 4, 3) := by decide +kernel
theorem dX10_level_20 : decode cX10_level 20 = .ok (.iconst (-1), 1) := by decide +kernel
theorem dX10_level_21 : decode cX10_level 21 = .ok (.ireturn, 1) := by decide +kernel
theorem dX10_run_0 : decode cX10_run 0 = .ok (.iload_n 1, 1) := by decide +kernel
theorem dX10_run_1 : decode cX10_run 1 = .ok (.ifCond .lt 11, 3) := by decide +kernel
theorem dX10_run_4 : decode cX10_run 4 = .ok (.aload_n 0, 1) := by decide +kernel
theorem dX10_run_5 : decode cX10_run 5 = .ok (.iload_n 1, 1) := by decide +kernel
theorem dX10_run_6 : decode cX10_run 6 = .ok (.invokevirtual 175, 3) := by decide +kernel
theorem dX10_run_9 : decode cX10_run 9 = .ok (.goto 4, 3) := by decide +kernel
theorem dX10_run_12 : decode cX10_run 12 = .ok (.iconst 0, 1) := by decide +kernel
theorem dX10_run_13 : decode cX10_run 13 = .ok (.istore_n 2, 1) := by decide +kernel
theorem dX10_run_14 : decode cX10_run 14 = .ok (.iload_n 2, 1) := by decide +kernel
theorem dX10_run_15 : decode cX10_run 15 = .ok (.ifCond .le 7, 3) := by decide +kernel
theorem dX10_run_18 : decode cX10_run 18 = .ok (.iload_n 2, 1) := by decide +kernel
theorem dX10_run_19 : decode cX10_run 19 = .ok (.goto 5, 3) := by decide +kernel
theorem dX10_run_22 : decode cX10_run 22 = .ok (.bipush (-9), 2) := by decide +kernel
theorem dX10_run_24 : decode cX10_run 24 = .ok (.ireturn, 1) := by decide +kernel
theorem dX10_off_0 : decode cX10_off 0 = .ok (.iload_n 1, 1) := by decide +kernel
theorem dX10_off_1 : decode cX10_off 1 = .ok (.i2l, 1) := by decide +kernel
theorem dX10_off_2 : decode cX10_off 2 = .ok (.lconst 1, 1) := by decide +kernel
theorem dX10_off_3 : decode cX10_off 3 = .ok (.ldc2_w 103, 3) := by decide +kernel
theorem dX10_off_6 : decode cX10_off 6 = .ok (.invokestatic 53, 3) := by decide +kernel
theorem dX10_off_9 : decode cX10_off 9 = .ok (.ifCond .eq 11, 3) := by decide +kernel
theorem dX10_off_12 : decode cX10_off 12 = .ok (.aload_n 0, 1) := by decide +kernel
theorem dX10_off_13 : decode cX10_off 13 = .ok (.iload_n 1, 1) := by decide +kernel
theorem dX10_off_14 : decode cX10_off 14 = .ok (.invokevirtual 182, 3) := by decide +kernel
theorem dX10_off_17 : decode cX10_off 17 = .ok (.goto 5, 3) := by decide +kernel
theorem dX10_off_20 : decode cX10_off 20 = .ok (.bipush (-2), 2) := by decide +kernel
theorem dX10_off_22 : decode cX10_off 22 = .ok (.ireturn, 1) := by decide +kernel
theorem dX10_note_0 : decode cX10_note 0 = .ok (.iconst 0, 1) := by decide +kernel
theorem dX10_note_1 : decode cX10_note 1 = .ok (.istore_n 1, 1) := by decide +kernel
theorem dX10_note_2 : decode cX10_note 2 = .ok (.iload_n 1, 1) := by decide +kernel
theorem dX10_note_3 : decode cX10_note 3 = .ok (.sipush 361, 3) := by decide +kernel
theorem dX10_note_6 : decode cX10_note 6 = .ok (.if_icmp .ge 30, 3) := by decide +kernel
theorem dX10_note_9 : decode cX10_note 9 = .ok (.aload_n 0, 1) := by decide +kernel
theorem dX10_note_10 : decode cX10_note 10 = .ok (.getfield 19, 3) := by decide +kernel
theorem dX10_note_13 : decode cX10_note 13 = .ok (.sipush 361, 3) := by decide +kernel
theorem dX10_note_16 : decode cX10_note 16 = .ok (.aload_n 0, 1) := by decide +kernel
theorem dX10_note_17 : decode cX10_note 17 = .ok (.getfield 204, 3) := by decide +kernel
theorem dX10_note_20 : decode cX10_note 20 = .ok (.imul, 1) := by decide +kernel
theorem dX10_note_21 : decode cX10_note 21 = .ok (.iload_n 1, 1) := by decide +kernel
theorem dX10_note_22 : decode cX10_note 22 = .ok (.iadd, 1) := by decide +kernel
theorem dX10_note_23 : decode cX10_note 23 = .ok (.aload_n 0, 1) := by decide +kernel
theorem dX10_note_24 : decode cX10_note 24 = .ok (.getfield 13, 3) := by decide +kernel
theorem dX10_note_27 : decode cX10_note 27 = .ok (.iload_n 1, 1) := by decide +kernel
theorem dX10_note_28 : decode cX10_note 28 = .ok (.iaload, 1) := by decide +kernel
theorem dX10_note_29 : decode cX10_note 29 = .ok (.iastore, 1) := by decide +kernel
theorem dX10_note_30 : decode cX10_note 30 = .ok (.iinc 1 1, 3) := by decide +kernel
theorem dX10_note_33 : decode cX10_note 33 = .ok (.goto (-31), 3) := by decide +kernel
theorem dX10_note_36 : decode cX10_note 36 = .ok (.aload_n 0, 1) := by decide +kernel
theorem dX10_note_37 : decode cX10_note 37 = .ok (.aload_n 0, 1) := by decide +kernel
theorem dX10_note_38 : decode cX10_note 38 = .ok (.getfield 204, 3) := by decide +kernel
theorem dX10_note_41 : decode cX10_note 41 = .ok (.iconst 1, 1) := by decide +kernel
theorem dX10_note_42 : decode cX10_note 42 = .ok (.iadd, 1) := by decide +kernel
theorem dX10_note_43 : decode cX10_note 43 = .ok (.bipush 14, 2) := by decide +kernel
theorem dX10_note_45 : decode cX10_note 45 = .ok (.irem, 1) := by decide +kernel
theorem dX10_note_46 : decode cX10_note 46 = .ok (.putfield 204, 3) := by decide +kernel
theorem dX10_note_49 : decode cX10_note 49 = .ok (.aload_n 0, 1) := by decide +kernel
theorem dX10_note_50 : decode cX10_note 50 = .ok (.aload_n 0, 1) := by decide +kernel
theorem dX10_note_51 : decode cX10_note 51 = .ok (.getfield 85, 3) := by decide +kernel
theorem dX10_note_54 : decode cX10_note 54 = .ok (.bipush 14, 2) := by decide +kernel
theorem dX10_note_56 : decode cX10_note 56 = .ok (.if_icmp .ge 12, 3) := by decide +kernel
theorem dX10_note_59 : decode cX10_note 59 = .ok (.aload_n 0, 1) := by decide +kernel
theorem dX10_note_60 : decode cX10_note 60 = .ok (.getfield 85, 3) := by decide +kernel
theorem dX10_note_63 : decode cX10_note 63 = .ok (.iconst 1, 1) := by decide +kernel
theorem dX10_note_64 : decode cX10_note 64 = .ok (.iadd, 1) := by decide +kernel
theorem dX10_note_65 : decode cX10_note 65 = .ok (.goto 5, 3) := by decide +kernel
theorem dX10_note_68 : decode cX10_note 68 = .ok (.bipush 14, 2) := by decide +kernel
theorem dX10_note_70 : decode cX10_note 70 = .ok (.putfield 85, 3) := by decide +kernel
theorem dX10_note_73 : decode cX10_note 73 = .ok (.return_, 1) := by decide +kernel
theorem dX10_hearOn_0 : decode cX10_hearOn 0 = .ok (.iconst 0, 1) := by decide +kernel
theorem dX10_hearOn_1 : decode cX10_hearOn 1 = .ok (.istore_n 3, 1) := by decide +kernel
theorem dX10_hearOn_2 : decode cX10_hearOn 2 = .ok (.iload_n 3, 1) := by decide +kernel
theorem dX10_hearOn_3 : decode cX10_hearOn 3 = .ok (.iload_n 2, 1) := by decide +kernel
theorem dX10_hearOn_4 : decode cX10_hearOn 4 = .ok (.if_icmp .ge 26, 3) := by decide +kernel
theorem dX10_hearOn_7 : decode cX10_hearOn 7 = .ok (.aload_n 0, 1) := by decide +kernel
theorem dX10_hearOn_8 : decode cX10_hearOn 8 = .ok (.aload_n 0, 1) := by decide +kernel
theorem dX10_hearOn_9 : decode cX10_hearOn 9 = .ok (.sipush 360, 3) := by decide +kernel
theorem dX10_hearOn_12 : decode cX10_hearOn 12 = .ok (.iaload, 1) := by decide +kernel
theorem dX10_hearOn_13 : decode cX10_hearOn 13 = .ok (.iload_n 1, 1) := by decide +kernel
theorem dX10_hearOn_14 : decode cX10_hearOn 14 = .ok (.iastore, 1) := by decide +kernel
theorem dX10_hearOn_15 : decode cX10_hearOn 15 = .ok (.aload_n 0, 1) := by decide +kernel
theorem dX10_hearOn_16 : decode cX10_hearOn 16 = .ok (.sipush 360, 3) := by decide +kernel
theorem dX10_hearOn_19 : decode cX10_hearOn 19 = .ok (.dup2, 1) := by decide +kernel
theorem dX10_hearOn_20 : decode cX10_hearOn 20 = .ok (.iaload, 1) := by decide +kernel
theorem dX10_hearOn_21 : decode cX10_hearOn 21 = .ok (.iconst 1, 1) := by decide +kernel
theorem dX10_hearOn_22 : decode cX10_hearOn 22 = .ok (.iadd, 1) := by decide +kernel
theorem dX10_hearOn_23 : decode cX10_hearOn 23 = .ok (.iastore, 1) := by decide +kernel
theorem dX10_hearOn_24 : decode cX10_hearOn 24 = .ok (.iinc 3 1, 3) := by decide +kernel
theorem dX10_hearOn_27 : decode cX10_hearOn 27 = .ok (.goto (-25), 3) := by decide +kernel
theorem dX10_hearOn_30 : decode cX10_hearOn 30 = .ok (.return_, 1) := by decide +kernel
theorem dX10_hear_0 : decode cX10_hear 0 = .ok (.iload_n 1, 1) := by decide +kernel
theorem dX10_hear_1 : decode cX10_hear 1 = .ok (.i2l, 1) := by decide +kernel
theorem dX10_hear_2 : decode cX10_hear 2 = .ok (.lconst 0, 1) := by decide +kernel
theorem dX10_hear_3 : decode cX10_hear 3 = .ok (.lconst 1, 1) := by decide +kernel
theorem dX10_hear_4 : decode cX10_hear 4 = .ok (.invokestatic 53, 3) := by decide +kernel
theorem dX10_hear_7 : decode cX10_hear 7 = .ok (.ifCond .eq 15, 3) := by decide +kernel
theorem dX10_hear_10 : decode cX10_hear 10 = .ok (.iload_n 2, 1) := by decide +kernel
theorem dX10_hear_11 : decode cX10_hear 11 = .ok (.i2l, 1) := by decide +kernel
theorem dX10_hear_12 : decode cX10_hear 12 = .ok (.lconst 1, 1) := by decide +kernel
theorem dX10_hear_13 : decode cX10_hear 13 = .ok (.ldc2_w 207, 3) := by decide +kernel
theorem dX10_hear_16 : decode cX10_hear 16 = .ok (.invokestatic 53, 3) := by decide +kernel
theorem dX10_hear_19 : decode cX10_hear 19 = .ok (.ifCond .ne 6, 3) := by decide +kernel
theorem dX10_hear_22 : decode cX10_hear 22 = .ok (.bipush (-2), 2) := by decide +kernel
theorem dX10_hear_24 : decode cX10_hear 24 = .ok (.ireturn, 1) := by decide +kernel
theorem dX10_hear_25 : decode cX10_hear 25 = .ok (.aload_n 0, 1) := by decide +kernel
theorem dX10_hear_26 : decode cX10_hear 26 = .ok (.getfield 13, 3) := by decide +kernel
theorem dX10_hear_29 : decode cX10_hear 29 = .ok (.sipush 360, 3) := by decide +kernel
theorem dX10_hear_32 : decode cX10_hear 32 = .ok (.iaload, 1) := by decide +kernel
theorem dX10_hear_33 : decode cX10_hear 33 = .ok (.iload_n 2, 1) := by decide +kernel
theorem dX10_hear_34 : decode cX10_hear 34 = .ok (.iadd, 1) := by decide +kernel
theorem dX10_hear_35 : decode cX10_hear 35 = .ok (.sipush 360, 3) := by decide +kernel
theorem dX10_hear_38 : decode cX10_hear 38 = .ok (.if_icmp .le 6, 3) := by decide +kernel
theorem dX10_hear_41 : decode cX10_hear 41 = .ok (.bipush (-4), 2) := by decide +kernel
theorem dX10_hear_43 : decode cX10_hear 43 = .ok (.ireturn, 1) := by decide +kernel
theorem dX10_hear_44 : decode cX10_hear 44 = .ok (.aload_n 0, 1) := by decide +kernel
theorem dX10_hear_45 : decode cX10_hear 45 = .ok (.invokevirtual 209, 3) := by decide +kernel
theorem dX10_hear_48 : decode cX10_hear 48 = .ok (.aload_n 0, 1) := by decide +kernel
theorem dX10_hear_49 : decode cX10_hear 49 = .ok (.getfield 13, 3) := by decide +kernel
theorem dX10_hear_52 : decode cX10_hear 52 = .ok (.iload_n 1, 1) := by decide +kernel
theorem dX10_hear_53 : decode cX10_hear 53 = .ok (.iload_n 2, 1) := by decide +kernel
theorem dX10_hear_54 : decode cX10_hear 54 = .ok (.invokestatic 212, 3) := by decide +kernel
theorem dX10_hear_57 : decode cX10_hear 57 = .ok (.aload_n 0, 1) := by decide +kernel
theorem dX10_hear_58 : decode cX10_hear 58 = .ok (.getfield 13, 3) := by decide +kernel
theorem dX10_hear_61 : decode cX10_hear 61 = .ok (.sipush 360, 3) := by decide +kernel
theorem dX10_hear_64 : decode cX10_hear 64 = .ok (.iaload, 1) := by decide +kernel
theorem dX10_hear_65 : decode cX10_hear 65 = .ok (.ireturn, 1) := by decide +kernel
theorem dX10_hasRoom_0 : decode cX10_hasRoom 0 = .ok (.aload_n 1, 1) := by decide +kernel
theorem dX10_hasRoom_1 : decode cX10_hasRoom 1 = .ok (.sipush 360, 3) := by decide +kernel
theorem dX10_hasRoom_4 : decode cX10_hasRoom 4 = .ok (.iaload, 1) := by decide +kernel
theorem dX10_hasRoom_5 : decode cX10_hasRoom 5 = .ok (.aload_n 0, 1) := by decide +kernel
theorem dX10_hasRoom_6 : decode cX10_hasRoom 6 = .ok (.getfield 88, 3) := by decide +kernel
theorem dX10_hasRoom_9 : decode cX10_hasRoom 9 = .ok (.iconst 1, 1) := by decide +kernel
theorem dX10_hasRoom_10 : decode cX10_hasRoom 10 = .ok (.aload_n 0, 1) := by decide +kernel
theorem dX10_hasRoom_11 : decode cX10_hasRoom 11 = .ok (.invokevirtual 114, 3) := by decide +kernel
theorem dX10_hasRoom_14 : decode cX10_hasRoom 14 = .ok (.iadd, 1) := by decide +kernel
theorem dX10_hasRoom_15 : decode cX10_hasRoom 15 = .ok (.imul, 1) := by decide +kernel
theorem dX10_hasRoom_16 : decode cX10_hasRoom 16 = .ok (.iadd, 1) := by decide +kernel
theorem dX10_hasRoom_17 : decode cX10_hasRoom 17 = .ok (.sipush 360, 3) := by decide +kernel
theorem dX10_hasRoom_20 : decode cX10_hasRoom 20 = .ok (.if_icmp .gt 7, 3) := by decide +kernel
theorem dX10_hasRoom_23 : decode cX10_hasRoom 23 = .ok (.iconst 1, 1) := by decide +kernel
theorem dX10_hasRoom_24 : decode cX10_hasRoom 24 = .ok (.goto 4, 3) := by decide +kernel
theorem dX10_hasRoom_27 : decode cX10_hasRoom 27 = .ok (.iconst 0, 1) := by decide +kernel
theorem dX10_hasRoom_28 : decode cX10_hasRoom 28 = .ok (.ireturn, 1) := by decide +kernel
theorem dX10_sendOn_0 : decode cX10_sendOn 0 = .ok (.iconst 0, 1) := by decide +kernel
theorem dX10_sendOn_1 : decode cX10_sendOn 1 = .ok (.istore_n 3, 1) := by decide +kernel
theorem dX10_sendOn_2 : decode cX10_sendOn 2 = .ok (.aload_n 1, 1) := by decide +kernel
theorem dX10_sendOn_3 : decode cX10_sendOn 3 = .ok (.aload_n 0, 1) := by decide +kernel
theorem dX10_sendOn_4 : decode cX10_sendOn 4 = .ok (.getfield 100, 3) := by decide +kernel
theorem dX10_sendOn_7 : decode cX10_sendOn 7 = .ok (.aload_n 0, 1) := by decide +kernel
theorem dX10_sendOn_8 : decode cX10_sendOn 8 = .ok (.getfield 88, 3) := by decide +kernel
theorem dX10_sendOn_11 : decode cX10_sendOn 11 = .ok (.invokestatic 212, 3) := by decide +kernel
theorem dX10_sendOn_14 : decode cX10_sendOn 14 = .ok (.aload_n 1, 1) := by decide +kernel
theorem dX10_sendOn_15 : decode cX10_sendOn 15 = .ok (.iconst 1, 1) := by decide +kernel
theorem dX10_sendOn_16 : decode cX10_sendOn 16 = .ok (.aload_n 0, 1) := by decide +kernel
theorem dX10_sendOn_17 : decode cX10_sendOn 17 = .ok (.getfield 100, 3) := by decide +kernel
theorem dX10_sendOn_20 : decode cX10_sendOn 20 = .ok (.isub, 1) := by decide +kernel
theorem dX10_sendOn_21 : decode cX10_sendOn 21 = .ok (.aload_n 0, 1) := by decide +kernel
theorem dX10_sendOn_22 : decode cX10_sendOn 22 = .ok (.getfield 88, 3) := by decide +kernel
theorem dX10_sendOn_25 : decode cX10_sendOn 25 = .ok (.invokestatic 212, 3) := by decide +kernel
theorem dX10_sendOn_28 : decode cX10_sendOn 28 = .ok (.iconst 0, 1) := by decide +kernel
theorem dX10_sendOn_29 : decode cX10_sendOn 29 = .ok (.istore 4, 2) := by decide +kernel
theorem dX10_sendOn_31 : decode cX10_sendOn 31 = .ok (.iload 4, 2) := by decide +kernel
theorem dX10_sendOn_33 : decode cX10_sendOn 33 = .ok (.aload_n 0, 1) := by decide +kernel
theorem dX10_sendOn_34 : decode cX10_sendOn 34 = .ok (.getfield 91, 3) := by decide +kernel
theorem dX10_sendOn_37 : decode cX10_sendOn 37 = .ok (.if_icmp .ge 49, 3) := by decide +kernel
theorem dX10_sendOn_40 : decode cX10_sendOn 40 = .ok (.iload_n 2, 1) := by decide +kernel
theorem dX10_sendOn_41 : decode cX10_sendOn 41 = .ok (.iload 4, 2) := by decide +kernel
theorem dX10_sendOn_43 : decode cX10_sendOn 43 = .ok (.ishr, 1) := by decide +kernel
theorem dX10_sendOn_44 : decode cX10_sendOn 44 = .ok (.iconst 1, 1) := by decide +kernel
theorem dX10_sendOn_45 : decode cX10_sendOn 45 = .ok (.iand, 1) := by decide +kernel
theorem dX10_sendOn_46 : decode cX10_sendOn 46 = .ok (.istore 5, 2) := by decide +kernel
theorem dX10_sendOn_48 : decode cX10_sendOn 48 = .ok (.iload_n 3, 1) := by decide +kernel
theorem dX10_sendOn_49 : decode cX10_sendOn 49 = .ok (.iload 5, 2) := by decide +kernel
theorem dX10_sendOn_51 : decode cX10_sendOn 51 = .ok (.ixor, 1) := by decide +kernel
theorem dX10_sendOn_52 : decode cX10_sendOn 52 = .ok (.istore_n 3, 1) := by decide +kernel
theorem dX10_sendOn_53 : decode cX10_sendOn 53 = .ok (.aload_n 1, 1) := by decide +kernel
theorem dX10_sendOn_54 : decode cX10_sendOn 54 = .ok (.iload 5, 2) := by decide +kernel
theorem dX10_sendOn_56 : decode cX10_sendOn 56 = .ok (.iconst 1, 1) := by decide +kernel
theorem dX10_sendOn_57 : decode cX10_sendOn 57 = .ok (.if_icmp .ne 10, 3) := by decide +kernel
theorem dX10_sendOn_60 : decode cX10_sendOn 60 = .ok (.aload_n 0, 1) := by decide +kernel
theorem dX10_sendOn_61 : decode cX10_sendOn 61 = .ok (.getfield 100, 3) := by decide +kernel
theorem dX10_sendOn_64 : decode cX10_sendOn 64 = .ok (.goto 9, 3) := by decide +kernel
theorem dX10_sendOn_67 : decode cX10_sendOn 67 = .ok (.iconst 1, 1) := by decide +kernel
theorem dX10_sendOn_68 : decode cX10_sendOn 68 = .ok (.aload_n 0, 1) := by decide +kernel
theorem dX10_sendOn_69 : decode cX10_sendOn 69 = .ok (.getfield 100, 3) := by decide +kernel
theorem dX10_sendOn_72 : decode cX10_sendOn 72 = .ok (.isub, 1) := by decide +kernel
theorem dX10_sendOn_73 : decode cX10_sendOn 73 = .ok (.aload_n 0, 1) := by decide +kernel
theorem dX10_sendOn_74 : decode cX10_sendOn 74 = .ok (.getfield 88, 3) := by decide +kernel
theorem dX10_sendOn_77 : decode cX10_sendOn 77 = .ok (.invokestatic 212, 3) := by decide +kernel
theorem dX10_sendOn_80 : decode cX10_sendOn 80 = .ok (.iinc 4 1, 3) := by decide +kernel
theorem dX10_sendOn_83 : decode cX10_sendOn 83 = .ok (.goto (-52), 3) := by decide +kernel
theorem dX10_sendOn_86 : decode cX10_sendOn 86 = .ok (.aload_n 0, 1) := by decide +kernel
theorem dX10_sendOn_87 : decode cX10_sendOn 87 = .ok (.getfield 94, 3) := by decide +kernel
theorem dX10_sendOn_90 : decode cX10_sendOn 90 = .ok (.ifCond .le 62, 3) := by decide +kernel
theorem dX10_sendOn_93 : decode cX10_sendOn 93 = .ok (.iload_n 3, 1) := by decide +kernel
theorem dX10_sendOn_94 : decode cX10_sendOn 94 = .ok (.iconst 1, 1) := by decide +kernel
theorem dX10_sendOn_95 : decode cX10_sendOn 95 = .ok (.if_icmp .ne 7, 3) := by decide +kernel
theorem dX10_sendOn_98 : decode cX10_sendOn 98 = .ok (.iconst 1, 1) := by decide +kernel
theorem dX10_sendOn_99 : decode cX10_sendOn 99 = .ok (.goto 4, 3) := by decide +kernel
theorem dX10_sendOn_102 : decode cX10_sendOn 102 = .ok (.iconst 0, 1) := by decide +kernel
theorem dX10_sendOn_103 : decode cX10_sendOn 103 = .ok (.aload_n 0, 1) := by decide +kernel
theorem dX10_sendOn_104 : decode cX10_sendOn 104 = .ok (.getfield 94, 3) := by decide +kernel
theorem dX10_sendOn_107 : decode cX10_sendOn 107 = .ok (.iconst 1, 1) := by decide +kernel
theorem dX10_sendOn_108 : decode cX10_sendOn 108 = .ok (.if_icmp .ne 7, 3) := by decide +kernel
theorem dX10_sendOn_111 : decode cX10_sendOn 111 = .ok (.iconst 1, 1) := by decide +kernel
theorem dX10_sendOn_112 : decode cX10_sendOn 112 = .ok (.goto 4, 3) := by decide +kernel
theorem dX10_sendOn_115 : decode cX10_sendOn 115 = .ok (.iconst 0, 1) := by decide +kernel
theorem dX10_sendOn_116 : decode cX10_sendOn 116 = .ok (.if_icmp .ne 7, 3) := by decide +kernel
theorem dX10_sendOn_119 : decode cX10_sendOn 119 = .ok (.iconst 1, 1) := by decide +kernel
theorem dX10_sendOn_120 : decode cX10_sendOn 120 = .ok (.goto 4, 3) := by decide +kernel
theorem dX10_sendOn_123 : decode cX10_sendOn 123 = .ok (.iconst 0, 1) := by decide +kernel
theorem dX10_sendOn_124 : decode cX10_sendOn 124 = .ok (.istore 4, 2) := by decide +kernel
theorem dX10_sendOn_126 : decode cX10_sendOn 126 = .ok (.aload_n 1, 1) := by decide +kernel
theorem dX10_sendOn_127 : decode cX10_sendOn 127 = .ok (.iload 4, 2) := by decide +kernel
theorem dX10_sendOn_129 : decode cX10_sendOn 129 = .ok (.ifCond .eq 10, 3) := by decide +kernel
theorem dX10_sendOn_132 : decode cX10_sendOn 132 = .ok (.aload_n 0, 1) := by decide +kernel
theorem dX10_sendOn_133 : decode cX10_sendOn 133 = .ok (.getfield 100, 3) := by decide +kernel
theorem dX10_sendOn_136 : decode cX10_sendOn 136 = .ok (.goto 9, 3) := by decide +kernel
theorem dX10_sendOn_139 : decode cX10_sendOn 139 = .ok (.iconst 1, 1) := by decide +kernel
theorem dX10_sendOn_140 : decode cX10_sendOn 140 = .ok (.aload_n 0, 1) := by decide +kernel
theorem dX10_sendOn_141 : decode cX10_sendOn 141 = .ok (.getfield 100, 3) := by decide +kernel
theorem dX10_sendOn_144 : decode cX10_sendOn 144 = .ok (.isub, 1) := by decide +kernel
theorem dX10_sendOn_145 : decode cX10_sendOn 145 = .ok (.aload_n 0, 1) := by decide +kernel
theorem dX10_sendOn_146 : decode cX10_sendOn 146 = .ok (.getfield 88, 3) := by decide +kernel
theorem dX10_sendOn_149 : decode cX10_sendOn 149 = .ok (.invokestatic 212, 3) := by decide +kernel
theorem dX10_sendOn_152 : decode cX10_sendOn 152 = .ok (.aload_n 1, 1) := by decide +kernel
theorem dX10_sendOn_153 : decode cX10_sendOn 153 = .ok (.aload_n 0, 1) := by decide +kernel
theorem dX10_sendOn_154 : decode cX10_sendOn 154 = .ok (.getfield 100, 3) := by decide +kernel
theorem dX10_sendOn_157 : decode cX10_sendOn 157 = .ok (.aload_n 0, 1) := by decide +kernel
theorem dX10_sendOn_158 : decode cX10_sendOn 158 = .ok (.getfield 88, 3) := by decide +kernel
theorem dX10_sendOn_161 : decode cX10_sendOn 161 = .ok (.aload_n 0, 1) := by decide +kernel
theorem dX10_sendOn_162 : decode cX10_sendOn 162 = .ok (.getfield 97, 3) := by decide +kernel
theorem dX10_sendOn_165 : decode cX10_sendOn 165 = .ok (.imul, 1) := by decide +kernel
theorem dX10_sendOn_166 : decode cX10_sendOn 166 = .ok (.invokestatic 212, 3) := by decide +kernel
theorem dX10_sendOn_169 : decode cX10_sendOn 169 = .ok (.return_, 1) := by decide +kernel
theorem dX10_send_0 : decode cX10_send 0 = .ok (.aload_n 0, 1) := by decide +kernel
theorem dX10_send_1 : decode cX10_send 1 = .ok (.iload_n 1, 1) := by decide +kernel
theorem dX10_send_2 : decode cX10_send 2 = .ok (.invokevirtual 152, 3) := by decide +kernel
theorem dX10_send_5 : decode cX10_send 5 = .ok (.ifCond .eq 15, 3) := by decide +kernel
theorem dX10_send_8 : decode cX10_send 8 = .ok (.iload_n 2, 1) := by decide +kernel
theorem dX10_send_9 : decode cX10_send 9 = .ok (.i2l, 1) := by decide +kernel
theorem dX10_send_10 : decode cX10_send 10 = .ok (.lconst 0, 1) := by decide +kernel
theorem dX10_send_11 : decode cX10_send 11 = .ok (.ldc2_w 57, 3) := by decide +kernel
theorem dX10_send_14 : decode cX10_send 14 = .ok (.invokestatic 53, 3) := by decide +kernel
theorem dX10_send_17 : decode cX10_send 17 = .ok (.ifCond .ne 6, 3) := by decide +kernel
theorem dX10_send_20 : decode cX10_send 20 = .ok (.bipush (-2), 2) := by decide +kernel
theorem dX10_send_22 : decode cX10_send 22 = .ok (.ireturn, 1) := by decide +kernel
theorem dX10_send_23 : decode cX10_send 23 = .ok (.aload_n 0, 1) := by decide +kernel
theorem dX10_send_24 : decode cX10_send 24 = .ok (.aload_n 0, 1) := by decide +kernel
theorem dX10_send_25 : decode cX10_send 25 = .ok (.getfield 13, 3) := by decide +kernel
theorem dX10_send_28 : decode cX10_send 28 = .ok (.invokevirtual 216, 3) := by decide +kernel
theorem dX10_send_31 : decode cX10_send 31 = .ok (.ifCond .ne 6, 3) := by decide +kernel
theorem dX10_send_34 : decode cX10_send 34 = .ok (.bipush (-4), 2) := by decide +kernel
theorem dX10_send_36 : decode cX10_send 36 = .ok (.ireturn, 1) := by decide +kernel
theorem dX10_send_37 : decode cX10_send 37 = .ok (.aload_n 0, 1) := by decide +kernel
theorem dX10_send_38 : decode cX10_send 38 = .ok (.invokevirtual 209, 3) := by decide +kernel
theorem dX10_send_41 : decode cX10_send 41 = .ok (.aload_n 0, 1) := by decide +kernel
theorem dX10_send_42 : decode cX10_send 42 = .ok (.aload_n 0, 1) := by decide +kernel
theorem dX10_send_43 : decode cX10_send 43 = .ok (.getfield 13, 3) := by decide +kernel
theorem dX10_send_46 : decode cX10_send 46 = .ok (.iload_n 2, 1) := by decide +kernel
theorem dX10_send_47 : decode cX10_send 47 = .ok (.invokevirtual 220, 3) := by decide +kernel
theorem dX10_send_50 : decode cX10_send 50 = .ok (.aload_n 0, 1) := by decide +kernel
theorem dX10_send_51 : decode cX10_send 51 = .ok (.getfield 13, 3) := by decide +kernel
theorem dX10_send_54 : decode cX10_send 54 = .ok (.sipush 360, 3) := by decide +kernel
theorem dX10_send_57 : decode cX10_send 57 = .ok (.iaload, 1) := by decide +kernel
theorem dX10_send_58 : decode cX10_send 58 = .ok (.ireturn, 1) := by decide +kernel
theorem dX10_flip_0 : decode cX10_flip 0 = .ok (.aload_n 0, 1) := by decide +kernel
theorem dX10_flip_1 : decode cX10_flip 1 = .ok (.getfield 13, 3) := by decide +kernel
theorem dX10_flip_4 : decode cX10_flip 4 = .ok (.iload_n 1, 1) := by decide +kernel
theorem dX10_flip_5 : decode cX10_flip 5 = .ok (.invokestatic 117, 3) := by decide +kernel
theorem dX10_flip_8 : decode cX10_flip 8 = .ok (.ifCond .ne 5, 3) := by decide +kernel
theorem dX10_flip_11 : decode cX10_flip 11 = .ok (.iconst (-1), 1) := by decide +kernel
theorem dX10_flip_12 : decode cX10_flip 12 = .ok (.ireturn, 1) := by decide +kernel
theorem dX10_flip_13 : decode cX10_flip 13 = .ok (.aload_n 0, 1) := by decide +kernel
theorem dX10_flip_14 : decode cX10_flip 14 = .ok (.invokevirtual 209, 3) := by decide +kernel
theorem dX10_flip_17 : decode cX10_flip 17 = .ok (.aload_n 0, 1) := by decide +kernel
theorem dX10_flip_18 : decode cX10_flip 18 = .ok (.getfield 13, 3) := by decide +kernel
theorem dX10_flip_21 : decode cX10_flip 21 = .ok (.iload_n 1, 1) := by decide +kernel
theorem dX10_flip_22 : decode cX10_flip 22 = .ok (.iconst 1, 1) := by decide +kernel
theorem dX10_flip_23 : decode cX10_flip 23 = .ok (.aload_n 0, 1) := by decide +kernel
theorem dX10_flip_24 : decode cX10_flip 24 = .ok (.getfield 13, 3) := by decide +kernel
theorem dX10_flip_27 : decode cX10_flip 27 = .ok (.iload_n 1, 1) := by decide +kernel
theorem dX10_flip_28 : decode cX10_flip 28 = .ok (.iaload, 1) := by decide +kernel
theorem dX10_flip_29 : decode cX10_flip 29 = .ok (.isub, 1) := by decide +kernel
theorem dX10_flip_30 : decode cX10_flip 30 = .ok (.iastore, 1) := by decide +kernel
theorem dX10_flip_31 : decode cX10_flip 31 = .ok (.aload_n 0, 1) := by decide +kernel
theorem dX10_flip_32 : decode cX10_flip 32 = .ok (.getfield 13, 3) := by decide +kernel
theorem dX10_flip_35 : decode cX10_flip 35 = .ok (.iload_n 1, 1) := by decide +kernel
theorem dX10_flip_36 : decode cX10_flip 36 = .ok (.iaload, 1) := by decide +kernel
theorem dX10_flip_37 : decode cX10_flip 37 = .ok (.ireturn, 1) := by decide +kernel
theorem dX10_cutOn_0 : decode cX10_cutOn 0 = .ok (.iconst 0, 1) := by decide +kernel
theorem dX10_cutOn_1 : decode cX10_cutOn 1 = .ok (.istore_n 2, 1) := by decide +kernel
theorem dX10_cutOn_2 : decode cX10_cutOn 2 = .ok (.iload_n 2, 1) := by decide +kernel
theorem dX10_cutOn_3 : decode cX10_cutOn 3 = .ok (.iload_n 1, 1) := by decide +kernel
theorem dX10_cutOn_4 : decode cX10_cutOn 4 = .ok (.if_icmp .ge 26, 3) := by decide +kernel
theorem dX10_cutOn_7 : decode cX10_cutOn 7 = .ok (.aload_n 0, 1) := by decide +kernel
theorem dX10_cutOn_8 : decode cX10_cutOn 8 = .ok (.sipush 360, 3) := by decide +kernel
theorem dX10_cutOn_11 : decode cX10_cutOn 11 = .ok (.dup2, 1) := by decide +kernel
theorem dX10_cutOn_12 : decode cX10_cutOn 12 = .ok (.iaload, 1) := by decide +kernel
theorem dX10_cutOn_13 : decode cX10_cutOn 13 = .ok (.iconst 1, 1) := by decide +kernel
theorem dX10_cutOn_14 : decode cX10_cutOn 14 = .ok (.isub, 1) := by decide +kernel
theorem dX10_cutOn_15 : decode cX10_cutOn 15 = .ok (.iastore, 1) := by decide +kernel
theorem dX10_cutOn_16 : decode cX10_cutOn 16 = .ok (.aload_n 0, 1) := by decide +kernel
theorem dX10_cutOn_17 : decode cX10_cutOn 17 = .ok (.aload_n 0, 1) := by decide +kernel
theorem dX10_cutOn_18 : decode cX10_cutOn 18 = .ok (.sipush 360, 3) := by decide +kernel
theorem dX10_cutOn_21 : decode cX10_cutOn 21 = .ok (.iaload, 1) := by decide +kernel
theorem dX10_cutOn_22 : decode cX10_cutOn 22 = .ok (.iconst 0, 1) := by decide +kernel
theorem dX10_cutOn_23 : decode cX10_cutOn 23 = .ok (.iastore, 1) := by decide +kernel
theorem dX10_cutOn_24 : decode cX10_cutOn 24 = .ok (.iinc 2 1, 3) := by decide +kernel
theorem dX10_cutOn_27 : decode cX10_cutOn 27 = .ok (.goto (-25), 3) := by decide +kernel
theorem dX10_cutOn_30 : decode cX10_cutOn 30 = .ok (.return_, 1) := by decide +kernel
theorem dX10_cut_0 : decode cX10_cut 0 = .ok (.iload_n 1, 1) := by decide +kernel
theorem dX10_cut_1 : decode cX10_cut 1 = .ok (.i2l, 1) := by decide +kernel
theorem dX10_cut_2 : decode cX10_cut 2 = .ok (.lconst 1, 1) := by decide +kernel
theorem dX10_cut_3 : decode cX10_cut 3 = .ok (.aload_n 0, 1) := by decide +kernel
theorem dX10_cut_4 : decode cX10_cut 4 = .ok (.getfield 13, 3) := by decide +kernel
theorem dX10_cut_7 : decode cX10_cut 7 = .ok (.sipush 360, 3) := by decide +kernel
theorem dX10_cut_10 : decode cX10_cut 10 = .ok (.iaload, 1) := by decide +kernel
theorem dX10_cut_11 : decode cX10_cut 11 = .ok (.i2l, 1) := by decide +kernel
theorem dX10_cut_12 : decode cX10_cut 12 = .ok (.invokestatic 53, 3) := by decide +kernel
theorem dX10_cut_15 : decode cX10_cut 15 = .ok (.ifCond .ne 6, 3) := by decide +kernel
theorem dX10_cut_18 : decode cX10_cut 18 = .ok (.bipush (-2), 2) := by decide +kernel
theorem dX10_cut_20 : decode cX10_cut 20 = .ok (.ireturn, 1) := by decide +kernel
theorem dX10_cut_21 : decode cX10_cut 21 = .ok (.aload_n 0, 1) := by decide +kernel
theorem dX10_cut_22 : decode cX10_cut 22 = .ok (.invokevirtual 209, 3) := by decide +kernel
theorem dX10_cut_25 : decode cX10_cut 25 = .ok (.aload_n 0, 1) := by decide +kernel
theorem dX10_cut_26 : decode cX10_cut 26 = .ok (.getfield 13, 3) := by decide +kernel
theorem dX10_cut_29 : decode cX10_cut 29 = .ok (.iload_n 1, 1) := by decide +kernel
theorem dX10_cut_30 : decode cX10_cut 30 = .ok (.invokestatic 224, 3) := by decide +kernel
theorem dX10_cut_33 : decode cX10_cut 33 = .ok (.aload_n 0, 1) := by decide +kernel
theorem dX10_cut_34 : decode cX10_cut 34 = .ok (.getfield 13, 3) := by decide +kernel
theorem dX10_cut_37 : decode cX10_cut 37 = .ok (.sipush 360, 3) := by decide +kernel
theorem dX10_cut_40 : decode cX10_cut 40 = .ok (.iaload, 1) := by decide +kernel
theorem dX10_cut_41 : decode cX10_cut 41 = .ok (.ireturn, 1) := by decide +kernel
theorem dX10_undo_0 : decode cX10_undo 0 = .ok (.aload_n 0, 1) := by decide +kernel
theorem dX10_undo_1 : decode cX10_undo 1 = .ok (.getfield 85, 3) := by decide +kernel
theorem dX10_undo_4 : decode cX10_undo 4 = .ok (.ifCond .ne 6, 3) := by decide +kernel
theorem dX10_undo_7 : decode cX10_undo 7 = .ok (.bipush (-3), 2) := by decide +kernel
theorem dX10_undo_9 : decode cX10_undo 9 = .ok (.ireturn, 1) := by decide +kernel
theorem dX10_undo_10 : decode cX10_undo 10 = .ok (.aload_n 0, 1) := by decide +kernel
theorem dX10_undo_11 : decode cX10_undo 11 = .ok (.dup, 1) := by decide +kernel
theorem dX10_undo_12 : decode cX10_undo 12 = .ok (.getfield 85, 3) := by decide +kernel
theorem dX10_undo_15 : decode cX10_undo 15 = .ok (.iconst 1, 1) := by decide +kernel
theorem dX10_undo_16 : decode cX10_undo 16 = .ok (.isub, 1) := by decide +kernel
theorem dX10_undo_17 : decode cX10_undo 17 = .ok (.putfield 85, 3) := by decide +kernel
theorem dX10_undo_20 : decode cX10_undo 20 = .ok (.aload_n 0, 1) := by decide +kernel
theorem dX10_undo_21 : decode cX10_undo 21 = .ok (.aload_n 0, 1) := by decide +kernel
theorem dX10_undo_22 : decode cX10_undo 22 = .ok (.getfield 204, 3) := by decide +kernel
theorem dX10_undo_25 : decode cX10_undo 25 = .ok (.bipush 14, 2) := by decide +kernel
theorem dX10_undo_27 : decode cX10_undo 27 = .ok (.iadd, 1) := by decide +kernel
theorem dX10_undo_28 : decode cX10_undo 28 = .ok (.iconst 1, 1) := by decide +kernel
theorem dX10_undo_29 : decode cX10_undo 29 = .ok (.isub, 1) := by decide +kernel
theorem dX10_undo_30 : decode cX10_undo 30 = .ok (.bipush 14, 2) := by decide +kernel
theorem dX10_undo_32 : decode cX10_undo 32 = .ok (.irem, 1) := by decide +kernel
theorem dX10_undo_33 : decode cX10_undo 33 = .ok (.putfield 204, 3) := by decide +kernel
theorem dX10_undo_36 : decode cX10_undo 36 = .ok (.iconst 0, 1) := by decide +kernel
theorem dX10_undo_37 : decode cX10_undo 37 = .ok (.istore_n 1, 1) := by decide +kernel
theorem dX10_undo_38 : decode cX10_undo 38 = .ok (.iload_n 1, 1) := by decide +kernel
theorem dX10_undo_39 : decode cX10_undo 39 = .ok (.sipush 361, 3) := by decide +kernel
theorem dX10_undo_42 : decode cX10_undo 42 = .ok (.if_icmp .ge 30, 3) := by decide +kernel
theorem dX10_undo_45 : decode cX10_undo 45 = .ok (.aload_n 0, 1) := by decide +kernel
theorem dX10_undo_46 : decode cX10_undo 46 = .ok (.getfield 13, 3) := by decide +kernel
theorem dX10_undo_49 : decode cX10_undo 49 = .ok (.iload_n 1, 1) := by decide +kernel
theorem dX10_undo_50 : decode cX10_undo 50 = .ok (.aload_n 0, 1) := by decide +kernel
theorem dX10_undo_51 : decode cX10_undo 51 = .ok (.getfield 19, 3) := by decide +kernel
theorem dX10_undo_54 : decode cX10_undo 54 = .ok (.sipush 361, 3) := by decide +kernel
theorem dX10_undo_57 : decode cX10_undo 57 = .ok (.aload_n 0, 1) := by decide +kernel
theorem dX10_undo_58 : decode cX10_undo 58 = .ok (.getfield 204, 3) := by decide +kernel
theorem dX10_undo_61 : decode cX10_undo 61 = .ok (.imul, 1) := by decide +kernel
theorem dX10_undo_62 : decode cX10_undo 62 = .ok (.iload_n 1, 1) := by decide +kernel
theorem dX10_undo_63 : decode cX10_undo 63 = .ok (.iadd, 1) := by decide +kernel
theorem dX10_undo_64 : decode cX10_undo 64 = .ok (.iaload, 1) := by decide +kernel
theorem dX10_undo_65 : decode cX10_undo 65 = .ok (.iastore, 1) := by decide +kernel
theorem dX10_undo_66 : decode cX10_undo 66 = .ok (.iinc 1 1, 3) := by decide +kernel
theorem dX10_undo_69 : decode cX10_undo 69 = .ok (.goto (-31), 3) := by decide +kernel
theorem dX10_undo_72 : decode cX10_undo 72 = .ok (.aload_n 0, 1) := by decide +kernel
theorem dX10_undo_73 : decode cX10_undo 73 = .ok (.getfield 85, 3) := by decide +kernel
theorem dX10_undo_76 : decode cX10_undo 76 = .ok (.ireturn, 1) := by decide +kernel
theorem dX10_guess_0 : decode cX10_guess 0 = .ok (.aload_n 0, 1) := by decide +kernel
theorem dX10_guess_1 : decode cX10_guess 1 = .ok (.iload_n 1, 1) := by decide +kernel
theorem dX10_guess_2 : decode cX10_guess 2 = .ok (.invokevirtual 152, 3) := by decide +kernel
theorem dX10_guess_5 : decode cX10_guess 5 = .ok (.ifCond .eq 15, 3) := by decide +kernel
theorem dX10_guess_8 : decode cX10_guess 8 = .ok (.iload_n 2, 1) := by decide +kernel
theorem dX10_guess_9 : decode cX10_guess 9 = .ok (.i2l, 1) := by decide +kernel
theorem dX10_guess_10 : decode cX10_guess 10 = .ok (.lconst 0, 1) := by decide +kernel
theorem dX10_guess_11 : decode cX10_guess 11 = .ok (.ldc2_w 227, 3) := by decide +kernel
theorem dX10_guess_14 : decode cX10_guess 14 = .ok (.invokestatic 53, 3) := by decide +kernel
theorem dX10_guess_17 : decode cX10_guess 17 = .ok (.ifCond .ne 6, 3) := by decide +kernel
theorem dX10_guess_20 : decode cX10_guess 20 = .ok (.bipush (-2), 2) := by decide +kernel
theorem dX10_guess_22 : decode cX10_guess 22 = .ok (.ireturn, 1) := by decide +kernel
theorem dX10_guess_23 : decode cX10_guess 23 = .ok (.aload_n 0, 1) := by decide +kernel
theorem dX10_guess_24 : decode cX10_guess 24 = .ok (.aload_n 0, 1) := by decide +kernel
theorem dX10_guess_25 : decode cX10_guess 25 = .ok (.getfield 13, 3) := by decide +kernel
theorem dX10_guess_28 : decode cX10_guess 28 = .ok (.invokevirtual 141, 3) := by decide +kernel
theorem dX10_guess_31 : decode cX10_guess 31 = .ok (.aload_n 0, 1) := by decide +kernel
theorem dX10_guess_32 : decode cX10_guess 32 = .ok (.aload_n 0, 1) := by decide +kernel
theorem dX10_guess_33 : decode cX10_guess 33 = .ok (.getfield 13, 3) := by decide +kernel
theorem dX10_guess_36 : decode cX10_guess 36 = .ok (.invokevirtual 155, 3) := by decide +kernel
theorem dX10_guess_39 : decode cX10_guess 39 = .ok (.iload_n 2, 1) := by decide +kernel
theorem dX10_guess_40 : decode cX10_guess 40 = .ok (.tableswitch 60 0 3 #[32, 37, 50, 55], 32) := by decide +kernel
theorem dX10_guess_72 : decode cX10_guess 72 = .ok (.aload_n 0, 1) := by decide +kernel
theorem dX10_guess_73 : decode cX10_guess 73 = .ok (.getfield 125, 3) := by decide +kernel
theorem dX10_guess_76 : decode cX10_guess 76 = .ok (.ireturn, 1) := by decide +kernel
theorem dX10_guess_77 : decode cX10_guess 77 = .ok (.aload_n 0, 1) := by decide +kernel
theorem dX10_guess_78 : decode cX10_guess 78 = .ok (.invokevirtual 158, 3) := by decide +kernel
theorem dX10_guess_81 : decode cX10_guess 81 = .ok (.ifCond .eq 7, 3) := by decide +kernel
theorem dX10_guess_84 : decode cX10_guess 84 = .ok (.iconst 1, 1) := by decide +kernel
theorem dX10_guess_85 : decode cX10_guess 85 = .ok (.goto 4, 3) := by decide +kernel
theorem dX10_guess_88 : decode cX10_guess 88 = .ok (.iconst 0, 1) := by decide +kernel
theorem dX10_guess_89 : decode cX10_guess 89 = .ok (.ireturn, 1) := by decide +kernel
theorem dX10_guess_90 : decode cX10_guess 90 = .ok (.aload_n 0, 1) := by decide +kernel
theorem dX10_guess_91 : decode cX10_guess 91 = .ok (.getfield 128, 3) := by decide +kernel
theorem dX10_guess_94 : decode cX10_guess 94 = .ok (.ireturn, 1) := by decide +kernel
theorem dX10_guess_95 : decode cX10_guess 95 = .ok (.aload_n 0, 1) := by decide +kernel
theorem dX10_guess_96 : decode cX10_guess 96 = .ok (.getfield 131, 3) := by decide +kernel
theorem dX10_guess_99 : decode cX10_guess 99 = .ok (.ireturn, 1) := by decide +kernel
theorem dX10_guess_100 : decode cX10_guess 100 = .ok (.aload_n 0, 1) := by decide +kernel
theorem dX10_guess_101 : decode cX10_guess 101 = .ok (.invokevirtual 158, 3) := by decide +kernel
theorem dX10_guess_104 : decode cX10_guess 104 = .ok (.ifCond .eq 10, 3) := by decide +kernel
theorem dX10_guess_107 : decode cX10_guess 107 = .ok (.aload_n 0, 1) := by decide +kernel
theorem dX10_guess_108 : decode cX10_guess 108 = .ok (.getfield 111, 3) := by decide +kernel
theorem dX10_guess_111 : decode cX10_guess 111 = .ok (.goto 5, 3) := by decide +kernel
theorem dX10_guess_114 : decode cX10_guess 114 = .ok (.bipush (-9), 2) := by decide +kernel
theorem dX10_guess_116 : decode cX10_guess 116 = .ok (.ireturn, 1) := by decide +kernel
theorem dX10_letter_0 : decode cX10_letter 0 = .ok (.aload_n 0, 1) := by decide +kernel
theorem dX10_letter_1 : decode cX10_letter 1 = .ok (.iload_n 1, 1) := by decide +kernel
theorem dX10_letter_2 : decode cX10_letter 2 = .ok (.invokevirtual 152, 3) := by decide +kernel
theorem dX10_letter_5 : decode cX10_letter 5 = .ok (.ifCond .ne 6, 3) := by decide +kernel
theorem dX10_letter_8 : decode cX10_letter 8 = .ok (.bipush (-2), 2) := by decide +kernel
theorem dX10_letter_10 : decode cX10_letter 10 = .ok (.ireturn, 1) := by decide +kernel
theorem dX10_letter_11 : decode cX10_letter 11 = .ok (.aload_n 0, 1) := by decide +kernel
theorem dX10_letter_12 : decode cX10_letter 12 = .ok (.aload_n 0, 1) := by decide +kernel
theorem dX10_letter_13 : decode cX10_letter 13 = .ok (.getfield 13, 3) := by decide +kernel
theorem dX10_letter_16 : decode cX10_letter 16 = .ok (.invokevirtual 155, 3) := by decide +kernel
