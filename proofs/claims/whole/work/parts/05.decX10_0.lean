theorem dX10_init_0 : decode cX10_init 0 = .ok (.aload_n 0, 1) := by decide +kernel
theorem dX10_init_1 : decode cX10_init 1 = .ok (.invokespecial 1, 3) := by decide +kernel
theorem dX10_init_4 : decode cX10_init 4 = .ok (.aload_n 0, 1) := by decide +kernel
theorem dX10_init_5 : decode cX10_init 5 = .ok (.bipush 99, 2) := by decide +kernel
theorem dX10_init_7 : decode cX10_init 7 = .ok (.newarray .int, 2) := by decide +kernel
theorem dX10_init_9 : decode cX10_init 9 = .ok (.putfield 7, 3) := by decide +kernel
theorem dX10_init_12 : decode cX10_init 12 = .ok (.aload_n 0, 1) := by decide +kernel
theorem dX10_init_13 : decode cX10_init 13 = .ok (.sipush 361, 3) := by decide +kernel
theorem dX10_init_16 : decode cX10_init 16 = .ok (.newarray .int, 2) := by decide +kernel
theorem dX10_init_18 : decode cX10_init 18 = .ok (.putfield 13, 3) := by decide +kernel
theorem dX10_init_21 : decode cX10_init 21 = .ok (.aload_n 0, 1) := by decide +kernel
theorem dX10_init_22 : decode cX10_init 22 = .ok (.sipush 361, 3) := by decide +kernel
theorem dX10_init_25 : decode cX10_init 25 = .ok (.newarray .int, 2) := by decide +kernel
theorem dX10_init_27 : decode cX10_init 27 = .ok (.putfield 16, 3) := by decide +kernel
theorem dX10_init_30 : decode cX10_init 30 = .ok (.aload_n 0, 1) := by decide +kernel
theorem dX10_init_31 : decode cX10_init 31 = .ok (.sipush 5054, 3) := by decide +kernel
theorem dX10_init_34 : decode cX10_init 34 = .ok (.newarray .int, 2) := by decide +kernel
theorem dX10_init_36 : decode cX10_init 36 = .ok (.putfield 19, 3) := by decide +kernel
theorem dX10_init_39 : decode cX10_init 39 = .ok (.aload_n 0, 1) := by decide +kernel
theorem dX10_init_40 : decode cX10_init 40 = .ok (.sipush 722, 3) := by decide +kernel
theorem dX10_init_43 : decode cX10_init 43 = .ok (.newarray .int, 2) := by decide +kernel
theorem dX10_init_45 : decode cX10_init 45 = .ok (.putfield 22, 3) := by decide +kernel
theorem dX10_init_48 : decode cX10_init 48 = .ok (.aload_n 0, 1) := by decide +kernel
theorem dX10_init_49 : decode cX10_init 49 = .ok (.iconst 2, 1) := by decide +kernel
theorem dX10_init_50 : decode cX10_init 50 = .ok (.newarray .boolean, 2) := by decide +kernel
theorem dX10_init_52 : decode cX10_init 52 = .ok (.putfield 25, 3) := by decide +kernel
theorem dX10_init_55 : decode cX10_init 55 = .ok (.aload_n 0, 1) := by decide +kernel
theorem dX10_init_56 : decode cX10_init 56 = .ok (.iconst 5, 1) := by decide +kernel
theorem dX10_init_57 : decode cX10_init 57 = .ok (.newarray .int, 2) := by decide +kernel
theorem dX10_init_59 : decode cX10_init 59 = .ok (.putfield 29, 3) := by decide +kernel
theorem dX10_init_62 : decode cX10_init 62 = .ok (.aload_n 0, 1) := by decide +kernel
theorem dX10_init_63 : decode cX10_init 63 = .ok (.iconst 5, 1) := by decide +kernel
theorem dX10_init_64 : decode cX10_init 64 = .ok (.newarray .int, 2) := by decide +kernel
theorem dX10_init_66 : decode cX10_init 66 = .ok (.putfield 32, 3) := by decide +kernel
theorem dX10_init_69 : decode cX10_init 69 = .ok (.aload_n 0, 1) := by decide +kernel
theorem dX10_init_70 : decode cX10_init 70 = .ok (.bipush 64, 2) := by decide +kernel
theorem dX10_init_72 : decode cX10_init 72 = .ok (.newarray .int, 2) := by decide +kernel
theorem dX10_init_74 : decode cX10_init 74 = .ok (.putfield 35, 3) := by decide +kernel
theorem dX10_init_77 : decode cX10_init 77 = .ok (.aload_n 0, 1) := by decide +kernel
theorem dX10_init_78 : decode cX10_init 78 = .ok (.bipush 64, 2) := by decide +kernel
theorem dX10_init_80 : decode cX10_init 80 = .ok (.newarray .int, 2) := by decide +kernel
theorem dX10_init_82 : decode cX10_init 82 = .ok (.putfield 38, 3) := by decide +kernel
theorem dX10_init_85 : decode cX10_init 85 = .ok (.aload_n 0, 1) := by decide +kernel
theorem dX10_init_86 : decode cX10_init 86 = .ok (.bipush 64, 2) := by decide +kernel
theorem dX10_init_88 : decode cX10_init 88 = .ok (.newarray .int, 2) := by decide +kernel
theorem dX10_init_90 : decode cX10_init 90 = .ok (.putfield 41, 3) := by decide +kernel
theorem dX10_init_93 : decode cX10_init 93 = .ok (.aload_n 0, 1) := by decide +kernel
theorem dX10_init_94 : decode cX10_init 94 = .ok (.sipush 360, 3) := by decide +kernel
theorem dX10_init_97 : decode cX10_init 97 = .ok (.newarray .int, 2) := by decide +kernel
theorem dX10_init_99 : decode cX10_init 99 = .ok (.putfield 44, 3) := by decide +kernel
theorem dX10_init_102 : decode cX10_init 102 = .ok (.aload_n 0, 1) := by decide +kernel
theorem dX10_init_103 : decode cX10_init 103 = .ok (.bipush 32, 2) := by decide +kernel
theorem dX10_init_105 : decode cX10_init 105 = .ok (.newarray .int, 2) := by decide +kernel
theorem dX10_init_107 : decode cX10_init 107 = .ok (.putfield 47, 3) := by decide +kernel
theorem dX10_init_110 : decode cX10_init 110 = .ok (.aload_n 0, 1) := by decide +kernel
theorem dX10_init_111 : decode cX10_init 111 = .ok (.sipush 360, 3) := by decide +kernel
theorem dX10_init_114 : decode cX10_init 114 = .ok (.newarray .int, 2) := by decide +kernel
theorem dX10_init_116 : decode cX10_init 116 = .ok (.putfield 50, 3) := by decide +kernel
theorem dX10_init_119 : decode cX10_init 119 = .ok (.return_, 1) := by decide +kernel
theorem dX10_copy_0 : decode cX10_copy 0 = .ok (.iconst 0, 1) := by decide +kernel
theorem dX10_copy_1 : decode cX10_copy 1 = .ok (.istore_n 2, 1) := by decide +kernel
theorem dX10_copy_2 : decode cX10_copy 2 = .ok (.iload_n 2, 1) := by decide +kernel
theorem dX10_copy_3 : decode cX10_copy 3 = .ok (.sipush 361, 3) := by decide +kernel
theorem dX10_copy_6 : decode cX10_copy 6 = .ok (.if_icmp .ge 15, 3) := by decide +kernel
theorem dX10_copy_9 : decode cX10_copy 9 = .ok (.aload_n 1, 1) := by decide +kernel
theorem dX10_copy_10 : decode cX10_copy 10 = .ok (.iload_n 2, 1) := by decide +kernel
theorem dX10_copy_11 : decode cX10_copy 11 = .ok (.aload_n 0, 1) := by decide +kernel
theorem dX10_copy_12 : decode cX10_copy 12 = .ok (.iload_n 2, 1) := by decide +kernel
theorem dX10_copy_13 : decode cX10_copy 13 = .ok (.iaload, 1) := by decide +kernel
theorem dX10_copy_14 : decode cX10_copy 14 = .ok (.iastore, 1) := by decide +kernel
theorem dX10_copy_15 : decode cX10_copy 15 = .ok (.iinc 2 1, 3) := by decide +kernel
theorem dX10_copy_18 : decode cX10_copy 18 = .ok (.goto (-16), 3) := by decide +kernel
theorem dX10_copy_21 : decode cX10_copy 21 = .ok (.return_, 1) := by decide +kernel
theorem dX10_in_0 : decode cX10_in 0 = .ok (.lload_n 0, 1) := by decide +kernel
theorem dX10_in_1 : decode cX10_in 1 = .ok (.lload_n 2, 1) := by decide +kernel
theorem dX10_in_2 : decode cX10_in 2 = .ok (.lcmp, 1) := by decide +kernel
theorem dX10_in_3 : decode cX10_in 3 = .ok (.ifCond .lt 14, 3) := by decide +kernel
theorem dX10_in_6 : decode cX10_in 6 = .ok (.lload_n 0, 1) := by decide +kernel
theorem dX10_in_7 : decode cX10_in 7 = .ok (.lload 4, 2) := by decide +kernel
theorem dX10_in_9 : decode cX10_in 9 = .ok (.lcmp, 1) := by decide +kernel
theorem dX10_in_10 : decode cX10_in 10 = .ok (.ifCond .gt 7, 3) := by decide +kernel
theorem dX10_in_13 : decode cX10_in 13 = .ok (.iconst 1, 1) := by decide +kernel
theorem dX10_in_14 : decode cX10_in 14 = .ok (.goto 4, 3) := by decide +kernel
theorem dX10_in_17 : decode cX10_in 17 = .ok (.iconst 0, 1) := by decide +kernel
theorem dX10_in_18 : decode cX10_in 18 = .ok (.ireturn, 1) := by decide +kernel
theorem dX10_ones_0 : decode cX10_ones 0 = .ok (.iconst 0, 1) := by decide +kernel
theorem dX10_ones_1 : decode cX10_ones 1 = .ok (.istore_n 1, 1) := by decide +kernel
theorem dX10_ones_2 : decode cX10_ones 2 = .ok (.iconst 0, 1) := by decide +kernel
theorem dX10_ones_3 : decode cX10_ones 3 = .ok (.istore_n 2, 1) := by decide +kernel
theorem dX10_ones_4 : decode cX10_ones 4 = .ok (.iload_n 2, 1) := by decide +kernel
theorem dX10_ones_5 : decode cX10_ones 5 = .ok (.bipush 8, 2) := by decide +kernel
theorem dX10_ones_7 : decode cX10_ones 7 = .ok (.if_icmp .ge 17, 3) := by decide +kernel
theorem dX10_ones_10 : decode cX10_ones 10 = .ok (.iload_n 1, 1) := by decide +kernel
theorem dX10_ones_11 : decode cX10_ones 11 = .ok (.iload_n 0, 1) := by decide +kernel
theorem dX10_ones_12 : decode cX10_ones 12 = .ok (.iload_n 2, 1) := by decide +kernel
theorem dX10_ones_13 : decode cX10_ones 13 = .ok (.ishr, 1) := by decide +kernel
theorem dX10_ones_14 : decode cX10_ones 14 = .ok (.iconst 1, 1) := by decide +kernel
theorem dX10_ones_15 : decode cX10_ones 15 = .ok (.iand, 1) := by decide +kernel
theorem dX10_ones_16 : decode cX10_ones 16 = .ok (.iadd, 1) := by decide +kernel
theorem dX10_ones_17 : decode cX10_ones 17 = .ok (.istore_n 1, 1) := by decide +kernel
theorem dX10_ones_18 : decode cX10_ones 18 = .ok (.iinc 2 1, 3) := by decide +kernel
theorem dX10_ones_21 : decode cX10_ones 21 = .ok (.goto (-17), 3) := by decide +kernel
theorem dX10_ones_24 : decode cX10_ones 24 = .ok (.iload_n 1, 1) := by decide +kernel
theorem dX10_ones_25 : decode cX10_ones 25 = .ok (.ireturn, 1) := by decide +kernel
theorem dX10_power_0 : decode cX10_power 0 = .ok (.iconst 1, 1) := by decide +kernel
theorem dX10_power_1 : decode cX10_power 1 = .ok (.istore_n 2, 1) := by decide +kernel
theorem dX10_power_2 : decode cX10_power 2 = .ok (.iconst 0, 1) := by decide +kernel
theorem dX10_power_3 : decode cX10_power 3 = .ok (.istore_n 3, 1) := by decide +kernel
theorem dX10_power_4 : decode cX10_power 4 = .ok (.iload_n 3, 1) := by decide +kernel
theorem dX10_power_5 : decode cX10_power 5 = .ok (.iload_n 1, 1) := by decide +kernel
theorem dX10_power_6 : decode cX10_power 6 = .ok (.if_icmp .ge 13, 3) := by decide +kernel
theorem dX10_power_9 : decode cX10_power 9 = .ok (.iload_n 2, 1) := by decide +kernel
theorem dX10_power_10 : decode cX10_power 10 = .ok (.iload_n 0, 1) := by decide +kernel
theorem dX10_power_11 : decode cX10_power 11 = .ok (.imul, 1) := by decide +kernel
theorem dX10_power_12 : decode cX10_power 12 = .ok (.istore_n 2, 1) := by decide +kernel
theorem dX10_power_13 : decode cX10_power 13 = .ok (.iinc 3 1, 3) := by decide +kernel
theorem dX10_power_16 : decode cX10_power 16 = .ok (.goto (-12), 3) := by decide +kernel
theorem dX10_power_19 : decode cX10_power 19 = .ok (.iload_n 2, 1) := by decide +kernel
theorem dX10_power_20 : decode cX10_power 20 = .ok (.ireturn, 1) := by decide +kernel
theorem dX10_factorial_0 : decode cX10_factorial 0 = .ok (.iconst 1, 1) := by decide +kernel
theorem dX10_factorial_1 : decode cX10_factorial 1 = .ok (.istore_n 1, 1) := by decide +kernel
theorem dX10_factorial_2 : decode cX10_factorial 2 = .ok (.iconst 2, 1) := by decide +kernel
theorem dX10_factorial_3 : decode cX10_factorial 3 = .ok (.istore_n 2, 1) := by decide +kernel
theorem dX10_factorial_4 : decode cX10_factorial 4 = .ok (.iload_n 2, 1) := by decide +kernel
theorem dX10_factorial_5 : decode cX10_factorial 5 = .ok (.iload_n 0, 1) := by decide +kernel
theorem dX10_factorial_6 : decode cX10_factorial 6 = .ok (.if_icmp .gt 13, 3) := by decide +kernel
theorem dX10_factorial_9 : decode cX10_factorial 9 = .ok (.iload_n 1, 1) := by decide +kernel
theorem dX10_factorial_10 : decode cX10_factorial 10 = .ok (.iload_n 2, 1) := by decide +kernel
theorem dX10_factorial_11 : decode cX10_factorial 11 = .ok (.imul, 1) := by decide +kernel
theorem dX10_factorial_12 : decode cX10_factorial 12 = .ok (.istore_n 1, 1) := by decide +kernel
theorem dX10_factorial_13 : decode cX10_factorial 13 = .ok (.iinc 2 1, 3) := by decide +kernel
theorem dX10_factorial_16 : decode cX10_factorial 16 = .ok (.goto (-12), 3) := by decide +kernel
theorem dX10_factorial_19 : decode cX10_factorial 19 = .ok (.iload_n 1, 1) := by decide +kernel
theorem dX10_factorial_20 : decode cX10_factorial 20 = .ok (.ireturn, 1) := by decide +kernel
theorem dX10_fraction_0 : decode cX10_fraction 0 = .ok (.iload_n 0, 1) := by decide +kernel
theorem dX10_fraction_1 : decode cX10_fraction 1 = .ok (.ifCond .ge 8, 3) := by decide +kernel
theorem dX10_fraction_4 : decode cX10_fraction 4 = .ok (.iload_n 0, 1) := by decide +kernel
theorem dX10_fraction_5 : decode cX10_fraction 5 = .ok (.ineg, 1) := by decide +kernel
theorem dX10_fraction_6 : decode cX10_fraction 6 = .ok (.goto 4, 3) := by decide +kernel
theorem dX10_fraction_9 : decode cX10_fraction 9 = .ok (.iload_n 0, 1) := by decide +kernel
theorem dX10_fraction_10 : decode cX10_fraction 10 = .ok (.istore_n 3, 1) := by decide +kernel
theorem dX10_fraction_11 : decode cX10_fraction 11 = .ok (.iload_n 1, 1) := by decide +kernel
theorem dX10_fraction_12 : decode cX10_fraction 12 = .ok (.istore 4, 2) := by decide +kernel
theorem dX10_fraction_14 : decode cX10_fraction 14 = .ok (.iload 4, 2) := by decide +kernel
theorem dX10_fraction_16 : decode cX10_fraction 16 = .ok (.ifCond .eq 19, 3) := by decide +kernel
theorem dX10_fraction_19 : decode cX10_fraction 19 = .ok (.iload_n 3, 1) := by decide +kernel
theorem dX10_fraction_20 : decode cX10_fraction 20 = .ok (.iload 4, 2) := by decide +kernel
theorem dX10_fraction_22 : decode cX10_fraction 22 = .ok (.irem, 1) := by decide +kernel
theorem dX10_fraction_23 : decode cX10_fraction 23 = .ok (.istore 5, 2) := by decide +kernel
theorem dX10_fraction_25 : decode cX10_fraction 25 = .ok (.iload 4, 2) := by decide +kernel
theorem dX10_fraction_27 : decode cX10_fraction 27 = .ok (.istore_n 3, 1) := by decide +kernel
theorem dX10_fraction_28 : decode cX10_fraction 28 = .ok (.iload 5, 2) := by decide +kernel
theorem dX10_fraction_30 : decode cX10_fraction 30 = .ok (.istore 4, 2) := by decide +kernel
theorem dX10_fraction_32 : decode cX10_fraction 32 = .ok (.goto (-18), 3) := by decide +kernel
theorem dX10_fraction_35 : decode cX10_fraction 35 = .ok (.iload_n 2, 1) := by decide +kernel
theorem dX10_fraction_36 : decode cX10_fraction 36 = .ok (.ifCond .eq 9, 3) := by decide +kernel
theorem dX10_fraction_39 : decode cX10_fraction 39 = .ok (.iload_n 0, 1) := by decide +kernel
theorem dX10_fraction_40 : decode cX10_fraction 40 = .ok (.iload_n 3, 1) := by decide +kernel
theorem dX10_fraction_41 : decode cX10_fraction 41 = .ok (.idiv, 1) := by decide +kernel
theorem dX10_fraction_42 : decode cX10_fraction 42 = .ok (.goto 6, 3) := by decide +kernel
theorem dX10_fraction_45 : decode cX10_fraction 45 = .ok (.iload_n 1, 1) := by decide +kernel
theorem dX10_fraction_46 : decode cX10_fraction 46 = .ok (.iload_n 3, 1) := by decide +kernel
theorem dX10_fraction_47 : decode cX10_fraction 47 = .ok (.idiv, 1) := by decide +kernel
theorem dX10_fraction_48 : decode cX10_fraction 48 = .ok (.ireturn, 1) := by decide +kernel
theorem dX10_isTick_0 : decode cX10_isTick 0 = .ok (.iload_n 1, 1) := by decide +kernel
theorem dX10_isTick_1 : decode cX10_isTick 1 = .ok (.i2l, 1) := by decide +kernel
theorem dX10_isTick_2 : decode cX10_isTick 2 = .ok (.lconst 0, 1) := by decide +kernel
theorem dX10_isTick_3 : decode cX10_isTick 3 = .ok (.aload_n 0, 1) := by decide +kernel
theorem dX10_isTick_4 : decode cX10_isTick 4 = .ok (.sipush 360, 3) := by decide +kernel
theorem dX10_isTick_7 : decode cX10_isTick 7 = .ok (.iaload, 1) := by decide +kernel
theorem dX10_isTick_8 : decode cX10_isTick 8 = .ok (.iconst 1, 1) := by decide +kernel
theorem dX10_isTick_9 : decode cX10_isTick 9 = .ok (.isub, 1) := by decide +kernel
theorem dX10_isTick_10 : decode cX10_isTick 10 = .ok (.i2l, 1) := by decide +kernel
theorem dX10_isTick_11 : decode cX10_isTick 11 = .ok (.invokestatic 53, 3) := by decide +kernel
theorem dX10_isTick_14 : decode cX10_isTick 14 = .ok (.ireturn, 1) := by decide +kernel
theorem dX10_write_0 : decode cX10_write 0 = .ok (.iload_n 1, 1) := by decide +kernel
theorem dX10_write_1 : decode cX10_write 1 = .ok (.i2l, 1) := by decide +kernel
theorem dX10_write_2 : decode cX10_write 2 = .ok (.lconst 0, 1) := by decide +kernel
theorem dX10_write_3 : decode cX10_write 3 = .ok (.ldc2_w 57, 3) := by decide +kernel
theorem dX10_write_6 : decode cX10_write 6 = .ok (.invokestatic 53, 3) := by decide +kernel
theorem dX10_write_9 : decode cX10_write 9 = .ok (.ifCond .ne 6, 3) := by decide +kernel
theorem dX10_write_12 : decode cX10_write 12 = .ok (.bipush (-2), 2) := by decide +kernel
theorem dX10_write_14 : decode cX10_write 14 = .ok (.ireturn, 1) := by decide +kernel
theorem dX10_write_15 : decode cX10_write 15 = .ok (.aload_n 0, 1) := by decide +kernel
theorem dX10_write_16 : decode cX10_write 16 = .ok (.getfield 59, 3) := by decide +kernel
theorem dX10_write_19 : decode cX10_write 19 = .ok (.bipush 99, 2) := by decide +kernel
theorem dX10_write_21 : decode cX10_write 21 = .ok (.if_icmp .ne 6, 3) := by decide +kernel
theorem dX10_write_24 : decode cX10_write 24 = .ok (.bipush (-4), 2) := by decide +kernel
theorem dX10_write_26 : decode cX10_write 26 = .ok (.ireturn, 1) := by decide +kernel
theorem dX10_write_27 : decode cX10_write 27 = .ok (.aload_n 0, 1) := by decide +kernel
theorem dX10_write_28 : decode cX10_write 28 = .ok (.getfield 7, 3) := by decide +kernel
theorem dX10_write_31 : decode cX10_write 31 = .ok (.aload_n 0, 1) := by decide +kernel
theorem dX10_write_32 : decode cX10_write 32 = .ok (.getfield 59, 3) := by decide +kernel
theorem dX10_write_35 : decode cX10_write 35 = .ok (.iload_n 1, 1) := by decide +kernel
theorem dX10_write_36 : decode cX10_write 36 = .ok (.iastore, 1) := by decide +kernel
theorem dX10_write_37 : decode cX10_write 37 = .ok (.aload_n 0, 1) := by decide +kernel
theorem dX10_write_38 : decode cX10_write 38 = .ok (.dup, 1) := by decide +kernel
theorem dX10_write_39 : decode cX10_write 39 = .ok (.getfield 59, 3) := by decide +kernel
theorem dX10_write_42 : decode cX10_write 42 = .ok (.iconst 1, 1) := by decide +kernel
theorem dX10_write_43 : decode cX10_write 43 = .ok (.iadd, 1) := by decide +kernel
theorem dX10_write_44 : decode cX10_write 44 = .ok (.putfield 59, 3) := by decide +kernel
theorem dX10_write_47 : decode cX10_write 47 = .ok (.aload_n 0, 1) := by decide +kernel
theorem dX10_write_48 : decode cX10_write 48 = .ok (.getfield 59, 3) := by decide +kernel
theorem dX10_write_51 : decode cX10_write 51 = .ok (.ireturn, 1) := by decide +kernel
theorem dX10_wipe_0 : decode cX10_wipe 0 = .ok (.aload_n 0, 1) := by decide +kernel
theorem dX10_wipe_1 : decode cX10_wipe 1 = .ok (.getfield 59, 3) := by decide +kernel
theorem dX10_wipe_4 : decode cX10_wipe 4 = .ok (.istore_n 1, 1) := by decide +kernel
theorem dX10_wipe_5 : decode cX10_wipe 5 = .ok (.aload_n 0, 1) := by decide +kernel
theorem dX10_wipe_6 : decode cX10_wipe 6 = .ok (.iconst 0, 1) := by decide +kernel
theorem dX10_wipe_7 : decode cX10_wipe 7 = .ok (.putfield 59, 3) := by decide +kernel
theorem dX10_wipe_10 : decode cX10_wipe 10 = .ok (.iload_n 1, 1) := by decide +kernel
theorem dX10_wipe_11 : decode cX10_wipe 11 = .ok (.ireturn, 1) := by decide +kernel
theorem dX10_takeLetter_0 : decode cX10_takeLetter 0 = .ok (.iload_n 1, 1) := by decide +kernel
theorem dX10_takeLetter_1 : decode cX10_takeLetter 1 = .ok (.bipush 48, 2) := by decide +kernel
theorem dX10_takeLetter_3 : decode cX10_takeLetter 3 = .ok (.isub, 1) := by decide +kernel
theorem dX10_takeLetter_4 : decode cX10_takeLetter 4 = .ok (.istore_n 2, 1) := by decide +kernel
theorem dX10_takeLetter_5 : decode cX10_takeLetter 5 = .ok (.aload_n 0, 1) := by decide +kernel
theorem dX10_takeLetter_6 : decode cX10_takeLetter 6 = .ok (.getfield 63, 3) := by decide +kernel
theorem dX10_takeLetter_9 : decode cX10_takeLetter 9 = .ok (.tableswitch 194 1 3 #[27, 45, 96], 27) := by decide +kernel
theorem dX10_takeLetter_36 : decode cX10_takeLetter 36 = .ok (.aload_n 0, 1) := by decide +kernel
theorem dX10_takeLetter_37 : decode cX10_takeLetter 37 = .ok (.iload_n 2, 1) := by decide +kernel
theorem dX10_takeLetter_38 : decode cX10_takeLetter 38 = .ok (.putfield 66, 3) := by decide +kernel
theorem dX10_takeLetter_41 : decode cX10_takeLetter 41 = .ok (.aload_n 0, 1) := by decide +kernel
theorem dX10_takeLetter_42 : decode cX10_takeLetter 42 = .ok (.iconst 0, 1) := by decide +kernel
theorem dX10_takeLetter_43 : decode cX10_takeLetter 43 = .ok (.putfield 63, 3) := by decide +kernel
theorem dX10_takeLetter_46 : decode cX10_takeLetter 46 = .ok (.iload_n 2, 1) := by decide +kernel
theorem dX10_takeLetter_47 : decode cX10_takeLetter 47 = .ok (.i2l, 1) := by decide +kernel
theorem dX10_takeLetter_48 : decode cX10_takeLetter 48 = .ok (.lconst 0, 1) := by decide +kernel
theorem dX10_takeLetter_49 : decode cX10_takeLetter 49 = .ok (.lconst 1, 1) := by decide +kernel
theorem dX10_takeLetter_50 : decode cX10_takeLetter 50 = .ok (.invokestatic 53, 3) := by decide +kernel
theorem dX10_takeLetter_53 : decode cX10_takeLetter 53 = .ok (.ireturn, 1) := by decide +kernel
theorem dX10_takeLetter_54 : decode cX10_takeLetter 54 = .ok (.aload_n 0, 1) := by decide +kernel
theorem dX10_takeLetter_55 : decode cX10_takeLetter 55 = .ok (.iload_n 2, 1) := by decide +kernel
theorem dX10_takeLetter_56 : decode cX10_takeLetter 56 = .ok (.putfield 69, 3) := by decide +kernel
theorem dX10_takeLetter_59 : decode cX10_takeLetter 59 = .ok (.aload_n 0, 1) := by decide +kernel
theorem dX10_takeLetter_60 : decode cX10_takeLetter 60 = .ok (.iconst 3, 1) := by decide +kernel
theorem dX10_takeLetter_61 : decode cX10_takeLetter 61 = .ok (.putfield 63, 3) := by decide +kernel
theorem dX10_takeLetter_64 : decode cX10_takeLetter 64 = .ok (.iload_n 2, 1) := by decide +kernel
theorem dX10_takeLetter_65 : decode cX10_takeLetter 65 = .ok (.i2l, 1) := by decide +kernel
theorem dX10_takeLetter_66 : decode cX10_takeLetter 66 = .ok (.lconst 0, 1) := by decide +kernel
theorem dX10_takeLetter_67 : decode cX10_takeLetter 67 = .ok (.ldc2_w 72, 3) := by decide +kernel
theorem dX10_takeLetter_70 : decode cX10_takeLetter 70 = .ok (.invokestatic 53, 3) := by decide +kernel
theorem dX10_takeLetter_73 : decode cX10_takeLetter 73 = .ok (.ifCond .eq 30, 3) := by decide +kernel
theorem dX10_takeLetter_76 : decode cX10_takeLetter 76 = .ok (.aload_n 0, 1) := by decide +kernel
theorem dX10_takeLetter_77 : decode cX10_takeLetter 77 = .ok (.getfield 74, 3) := by decide +kernel
theorem dX10_takeLetter_80 : decode cX10_takeLetter 80 = .ok (.iload_n 2, 1) := by decide +kernel
theorem dX10_takeLetter_81 : decode cX10_takeLetter 81 = .ok (.ifCond .ne 7, 3) := by decide +kernel
theorem dX10_takeLetter_84 : decode cX10_takeLetter 84 = .ok (.iconst 1, 1) := by decide +kernel
theorem dX10_takeLetter_85 : decode cX10_takeLetter 85 = .ok (.goto 7, 3) := by decide +kernel
theorem dX10_takeLetter_88 : decode cX10_takeLetter 88 = .ok (.bipush 10, 2) := by decide +kernel
theorem dX10_takeLetter_90 : decode cX10_takeLetter 90 = .ok (.iload_n 2, 1) := by decide +kernel
theorem dX10_takeLetter_91 : decode cX10_takeLetter 91 = .ok (.imul, 1) := by decide +kernel
theorem dX10_takeLetter_92 : decode cX10_takeLetter 92 = .ok (.iadd, 1) := by decide +kernel
theorem dX10_takeLetter_93 : decode cX10_takeLetter 93 = .ok (.sipush 360, 3) := by decide +kernel
theorem dX10_takeLetter_96 : decode cX10_takeLetter 96 = .ok (.if_icmp .gt 7, 3) := by decide +kernel
theorem dX10_takeLetter_99 : decode cX10_takeLetter 99 = .ok (.iconst 1, 1) := by decide +kernel
theorem dX10_takeLetter_100 : decode cX10_takeLetter 100 = .ok (.goto 4, 3) := by decide +kernel
theorem dX10_takeLetter_103 : decode cX10_takeLetter 103 = .ok (.iconst 0, 1) := by decide +kernel
theorem dX10_takeLetter_104 : decode cX10_takeLetter 104 = .ok (.ireturn, 1) := by decide +kernel
theorem dX10_takeLetter_105 : decode cX10_takeLetter 105 = .ok (.bipush 10, 2) := by decide +kernel
theorem dX10_takeLetter_107 : decode cX10_takeLetter 107 = .ok (.aload_n 0, 1) := by decide +kernel
theorem dX10_takeLetter_108 : decode cX10_takeLetter 108 = .ok (.getfield 69, 3) := by decide +kernel
theorem dX10_takeLetter_111 : decode cX10_takeLetter 111 = .ok (.imul, 1) := by decide +kernel
theorem dX10_takeLetter_112 : decode cX10_takeLetter 112 = .ok (.iload_n 2, 1) := by decide +kernel
theorem dX10_takeLetter_113 : decode cX10_takeLetter 113 = .ok (.iadd, 1) := by decide +kernel
theorem dX10_takeLetter_114 : decode cX10_takeLetter 114 = .ok (.istore_n 3, 1) := by decide +kernel
theorem dX10_takeLetter_115 : decode cX10_takeLetter 115 = .ok (.iload_n 2, 1) := by decide +kernel
theorem dX10_takeLetter_116 : decode cX10_takeLetter 116 = .ok (.i2l, 1) := by decide +kernel
theorem dX10_takeLetter_117 : decode cX10_takeLetter 117 = .ok (.lconst 0, 1) := by decide +kernel
theorem dX10_takeLetter_118 : decode cX10_takeLetter 118 = .ok (.ldc2_w 72, 3) := by decide +kernel
theorem dX10_takeLetter_121 : decode cX10_takeLetter 121 = .ok (.invokestatic 53, 3) := by decide +kernel
theorem dX10_takeLetter_124 : decode cX10_takeLetter 124 = .ok (.ifCond .eq 19, 3) := by decide +kernel
theorem dX10_takeLetter_127 : decode cX10_takeLetter 127 = .ok (.iload_n 3, 1) := by decide +kernel
theorem dX10_takeLetter_128 : decode cX10_takeLetter 128 = .ok (.ifCond .eq 15, 3) := by decide +kernel
theorem dX10_takeLetter_131 : decode cX10_takeLetter 131 = .ok (.aload_n 0, 1) := by decide +kernel
theorem dX10_takeLetter_132 : decode cX10_takeLetter 132 = .ok (.getfield 74, 3) := by decide +kernel
theorem dX10_takeLetter_135 : decode cX10_takeLetter 135 = .ok (.iload_n 3, 1) := by decide +kernel
theorem dX10_takeLetter_136 : decode cX10_takeLetter 136 = .ok (.iadd, 1) := by decide +kernel
theorem dX10_takeLetter_137 : decode cX10_takeLetter 137 = .ok (.sipush 360, 3) := by decide +kernel
theorem dX10_takeLetter_140 : decode cX10_takeLetter 140 = .ok (.if_icmp .le 5, 3) := by decide +kernel
theorem dX10_takeLetter_143 : decode cX10_takeLetter 143 = .ok (.iconst 0, 1) := by decide +kernel
theorem dX10_takeLetter_144 : decode cX10_takeLetter 144 = .ok (.ireturn, 1) := by decide +kernel
theorem dX10_takeLetter_145 : decode cX10_takeLetter 145 = .ok (.iconst 0, 1) := by decide +kernel
theorem dX10_takeLetter_146 : decode cX10_takeLetter 146 = .ok (.istore 4, 2) := by decide +kernel
theorem dX10_takeLetter_148 : decode cX10_takeLetter 148 = .ok (.iload 4, 2) := by decide +kernel
theorem dX10_takeLetter_150 : decode cX10_takeLetter 150 = .ok (.iload_n 3, 1) := by decide +kernel
theorem dX10_takeLetter_151 : decode cX10_takeLetter 151 = .ok (.if_icmp .ge 25, 3) := by decide +kernel
theorem dX10_takeLetter_154 : decode cX10_takeLetter 154 = .ok (.aload_n 0, 1) := by decide +kernel
theorem dX10_takeLetter_155 : decode cX10_takeLetter 155 = .ok (.getfield 50, 3) := by decide +kernel
theorem dX10_takeLetter_158 : decode cX10_takeLetter 158 = .ok (.aload_n 0, 1) := by decide +kernel
theorem dX10_takeLetter_159 : decode cX10_takeLetter 159 = .ok (.getfield 74, 3) := by decide +kernel
theorem dX10_takeLetter_162 : decode cX10_takeLetter 162 = .ok (.iload 4, 2) := by decide +kernel
theorem dX10_takeLetter_164 : decode cX10_takeLetter 164 = .ok (.iadd, 1) := by decide +kernel
theorem dX10_takeLetter_165 : decode cX10_takeLetter 165 = .ok (.aload_n 0, 1) := by decide +kernel
theorem dX10_takeLetter_166 : decode cX10_takeLetter 166 = .ok (.getfield 66, 3) := by decide +kernel
theorem dX10_takeLetter_169 : decode cX10_takeLetter 169 = .ok (.iastore, 1) := by decide +kernel
theorem dX10_takeLetter_170 : decode cX10_takeLetter 170 = .ok (.iinc 4 1, 3) := by decide +kernel
theorem dX10_takeLetter_173 : decode cX10_takeLetter 173 = .ok (.goto (-25), 3) := by decide +kernel
theorem dX10_takeLetter_176 : decode cX10_takeLetter 176 = .ok (.aload_n 0, 1) := by decide +kernel
theorem dX10_takeLetter_177 : decode cX10_takeLetter 177 = .ok (.dup, 1) := by decide +kernel
theorem dX10_takeLetter_178 : decode cX10_takeLetter 178 = .ok (.getfield 74, 3) := by decide +kernel
theorem dX10_takeLetter_181 : decode cX10_takeLetter 181 = .ok (.iload_n 3, 1) := by decide +kernel
theorem dX10_takeLetter_182 : decode cX10_takeLetter 182 = .ok (.iadd, 1) := by decide +kernel
theorem dX10_takeLetter_183 : decode cX10_takeLetter 183 = .ok (.putfield 74, 3) := by decide +kernel
theorem dX10_takeLetter_186 : decode cX10_takeLetter 186 = .ok (.aload_n 0, 1) := by decide +kernel
theorem dX10_takeLetter_187 : decode cX10_takeLetter 187 = .ok (.iconst 1, 1) := by decide +kernel
theorem dX10_takeLetter_188 : decode cX10_takeLetter 188 = .ok (.aload_n 0, 1) := by decide +kernel
theorem dX10_takeLetter_189 : decode cX10_takeLetter 189 = .ok (.getfield 66, 3) := by decide +kernel
theorem dX10_takeLetter_192 : decode cX10_takeLetter 192 = .ok (.isub, 1) := by decide +kernel
theorem dX10_takeLetter_193 : decode cX10_takeLetter 193 = .ok (.putfield 66, 3) := by decide +kernel
theorem dX10_takeLetter_196 : decode cX10_takeLetter 196 = .ok (.aload_n 0, 1) := by decide +kernel
theorem dX10_takeLetter_197 : decode cX10_takeLetter 197 = .ok (.iconst 0, 1) := by decide +kernel
theorem dX10_takeLetter_198 : decode cX10_takeLetter 198 = .ok (.putfield 63, 3) := by decide +kernel
theorem dX10_takeLetter_201 : decode cX10_takeLetter 201 = .ok (.iconst 1, 1) := by decide +kernel
theorem dX10_takeLetter_202 : decode cX10_takeLetter 202 = .ok (.ireturn, 1) := by decide +kernel
theorem dX10_takeLetter_203 : decode cX10_takeLetter 203 = .ok (.aload_n 0, 1) := by decide +kernel
theorem dX10_takeLetter_204 : decode cX10_takeLetter 204 = .ok (.iconst 2, 1) := by decide +kernel
theorem dX10_takeLetter_205 : decode cX10_takeLetter 205 = .ok (.putfield 63, 3) := by decide +kernel
theorem dX10_takeLetter_208 : decode cX10_takeLetter 208 = .ok (.iload_n 1, 1) := by decide +kernel
theorem dX10_takeLetter_209 : decode cX10_takeLetter 209 = .ok (.bipush 114, 2) := by decide +kernel
theorem dX10_takeLetter_211 : decode cX10_takeLetter 211 = .ok (.if_icmp .ne 17, 3) := by decide +kernel
theorem dX10_takeLetter_214 : decode cX10_takeLetter 214 = .ok (.aload_n 0, 1) := by decide +kernel
theorem dX10_takeLetter_215 : decode cX10_takeLetter 215 = .ok (.getfield 74, 3) := by decide +kernel
theorem dX10_takeLetter_218 : decode cX10_takeLetter 218 = .ok (.sipush 360, 3) := by decide +kernel
theorem dX10_takeLetter_221 : decode cX10_takeLetter 221 = .ok (.if_icmp .ge 7, 3) := by decide +kernel
theorem dX10_takeLetter_224 : decode cX10_takeLetter 224 = .ok (.iconst 1, 1) := by decide +kernel
theorem dX10_takeLetter_225 : decode cX10_takeLetter 225 = .ok (.goto 4, 3) := by decide +kernel
theorem dX10_takeLetter_228 : decode cX10_takeLetter 228 = .ok (.iconst 0, 1) := by decide +kernel
theorem dX10_takeLetter_229 : decode cX10_takeLetter 229 = .ok (.ireturn, 1) := by decide +kernel
theorem dX10_readText_0 : decode cX10_readText 0 = .ok (.aload_n 0, 1) := by decide +kernel
theorem dX10_readText_1 : decode cX10_readText 1 = .ok (.iconst 0, 1) := by decide +kernel
theorem dX10_readText_2 : decode cX10_readText 2 = .ok (.putfield 74, 3) := by decide +kernel
theorem dX10_readText_5 : decode cX10_readText 5 = .ok (.aload_n 0, 1) := by decide +kernel
theorem dX10_readText_6 : decode cX10_readText 6 = .ok (.iconst 1, 1) := by decide +kernel
theorem dX10_readText_7 : decode cX10_readText 7 = .ok (.putfield 63, 3) := by decide +kernel
theorem dX10_readText_10 : decode cX10_readText 10 = .ok (.aload_n 0, 1) := by decide +kernel
theorem dX10_readText_11 : decode cX10_readText 11 = .ok (.getfield 59, 3) := by decide +kernel
theorem dX10_readText_14 : decode cX10_readText 14 = .ok (.ifCond .eq 14, 3) := by decide +kernel
theorem dX10_readText_17 : decode cX10_readText 17 = .ok (.aload_n 0, 1) := by decide +kernel
theorem dX10_readText_18 : decode cX10_readText 18 = .ok (.getfield 7, 3) := by decide +kernel
theorem dX10_readText_21 : decode cX10_readText 21 = .ok (.iconst 0, 1) := by decide +kernel
theorem dX10_readText_22 : decode cX10_readText 22 = .ok (.iaload, 1) := by decide +kernel
theorem dX10_readText_23 : decode cX10_readText 23 = .ok (.bipush 83, 2) := by decide +kernel
theorem dX10_readText_25 : decode cX10_readText 25 = .ok (.if_icmp .eq 5, 3) := by decide +kernel
theorem dX10_readText_28 : decode cX10_readText 28 = .ok (.iconst 0, 1) := by decide +kernel
theorem dX10_readText_29 : decode cX10_readText 29 = .ok (.ireturn, 1) := by decide +kernel
theorem dX10_readText_30 : decode cX10_readText 30 = .ok (.iconst 1, 1) := by decide +kernel
theorem dX10_readText_31 : decode cX10_readText 31 = .ok (.istore_n 1, 1) := by decide +kernel
theorem dX10_readText_32 : decode cX10_readText 32 = .ok (.iload_n 1, 1) := by decide +kernel
theorem dX10_readText_33 : decode cX10_readText 33 = .ok (.aload_n 0, 1) := by decide +kernel
theorem dX10_readText_34 : decode cX10_readText 34 = .ok (.getfield 59, 3) := by decide +kernel
theorem dX10_readText_37 : decode cX10_readText 37 = .ok (.if_icmp .ge 24, 3) := by decide +kernel
theorem dX10_readText_40 : decode cX10_readText 40 = .ok (.aload_n 0, 1) := by decide +kernel
theorem dX10_readText_41 : decode cX10_readText 41 = .ok (.aload_n 0, 1) := by decide +kernel
theorem dX10_readText_42 : decode cX10_readText 42 = .ok (.getfield 7, 3) := by decide +kernel
theorem dX10_readText_45 : decode cX10_readText 45 = .ok (.iload_n 1, 1) := by decide +kernel
theorem dX10_readText_46 : decode cX10_readText 46 = .ok (.iaload, 1) := by decide +kernel
theorem dX10_readText_47 : decode cX10_readText 47 = .ok (.invokevirtual 77, 3) := by decide +kernel
theorem dX10_readText_50 : decode cX10_readText 50 = .ok (.ifCond .ne 5, 3) := by decide +kernel
theorem dX10_readText_53 : decode cX10_readText 53 = .ok (.iload_n 1, 1) := by decide +kernel
theorem dX10_readText_54 : decode cX10_readText 54 = .ok (.ireturn, 1) := by decide +kernel
theorem dX10_readText_55 : decode cX10_readText 55 = .ok (.iinc 1 1, 3) := by decide +kernel
theorem dX10_readText_58 : decode cX10_readText 58 = .ok (.goto (-26), 3) := by decide +kernel
theorem dX10_readText_61 : decode cX10_readText 61 = .ok (.aload_n 0, 1) := by decide +kernel
theorem dX10_readText_62 : decode cX10_readText 62 = .ok (.getfield 63, 3) := by decide +kernel
theorem dX10_readText_65 : decode cX10_readText 65 = .ok (.ifCond .ne 8, 3) := by decide +kernel
theorem dX10_readText_68 : decode cX10_readText 68 = .ok (.bipush (-9), 2) := by decide +kernel
theorem dX10_readText_70 : decode cX10_readText 70 = .ok (.goto 7, 3) := by decide +kernel
theorem dX10_readText_73 : decode cX10_readText 73 = .ok (.aload_n 0, 1) := by decide +kernel
theorem dX10_readText_74 : decode cX10_readText 74 = .ok (.getfield 59, 3) := by decide +kernel
theorem dX10_readText_77 : decode cX10_readText 77 = .ok (.ireturn, 1) := by decide +kernel
theorem dX10_fault_0 : decode cX10_fault 0 = .ok (.aload_n 0, 1) := by decide +kernel
theorem dX10_fault_1 : decode cX10_fault 1 = .ok (.invokevirtual 81, 3) := by decide +kernel
theorem dX10_fault_4 : decode cX10_fault 4 = .ok (.ireturn, 1) := by decide +kernel
theorem dX10_take_0 : decode cX10_take 0 = .ok (.aload_n 0, 1) := by decide +kernel
theorem dX10_take_1 : decode cX10_take 1 = .ok (.invokevirtual 81, 3) := by decide +kernel
theorem dX10_take_4 : decode cX10_take 4 = .ok (.bipush (-9), 2) := by decide +kernel
theorem dX10_take_6 : decode cX10_take 6 = .ok (.if_icmp .eq 6, 3) := by decide +kernel
theorem dX10_take_9 : decode cX10_take 9 = .ok (.bipush (-3), 2) := by decide +kernel
theorem dX10_take_11 : decode cX10_take 11 = .ok (.ireturn, 1) := by decide +kernel
theorem dX10_take_12 : decode cX10_take 12 = .ok (.iconst 0, 1) := by decide +kernel
theorem dX10_take_13 : decode cX10_take 13 = .ok (.istore_n 1, 1) := by decide +kernel
theorem dX10_take_14 : decode cX10_take 14 = .ok (.iload_n 1, 1) := by decide +kernel
theorem dX10_take_15 : decode cX10_take 15 = .ok (.sipush 360, 3) := by decide +kernel
theorem dX10_take_18 : decode cX10_take 18 = .ok (.if_icmp .ge 33, 3) := by decide +kernel
theorem dX10_take_21 : decode cX10_take 21 = .ok (.aload_n 0, 1) := by decide +kernel
theorem dX10_take_22 : decode cX10_take 22 = .ok (.getfield 13, 3) := by decide +kernel
theorem dX10_take_25 : decode cX10_take 25 = .ok (.iload_n 1, 1) := by decide +kernel
theorem dX10_take_26 : decode cX10_take 26 = .ok (.iload_n 1, 1) := by decide +kernel
theorem dX10_take_27 : decode cX10_take 27 = .ok (.aload_n 0, 1) := by decide +kernel
theorem dX10_take_28 : decode cX10_take 28 = .ok (.getfield 74, 3) := by decide +kernel
theorem dX10_take_31 : decode cX10_take 31 = .ok (.if_icmp .ge 12, 3) := by decide +kernel
theorem dX10_take_34 : decode cX10_take 34 = .ok (.aload_n 0, 1) := by decide +kernel
theorem dX10_take_35 : decode cX10_take 35 = .ok (.getfield 50, 3) := by decide +kernel
theorem dX10_take_38 : decode cX10_take 38 = .ok (.iload_n 1, 1) := by decide +kernel
theorem dX10_take_39 : decode cX10_take 39 = .ok (.iaload, 1) := by decide +kernel
theorem dX10_take_40 : decode cX10_take 40 = .ok (.goto 4, 3) := by decide +kernel
theorem dX10_take_43 : decode cX10_take 43 = .ok (.iconst 0, 1) := by decide +kernel
theorem dX10_take_44 : decode cX10_take 44 = .ok (.iastore, 1) := by decide +kernel
theorem dX10_take_45 : decode cX10_take 45 = .ok (.iinc 1 1, 3) := by decide +kernel
theorem dX10_take_48 : decode cX10_take 48 = .ok (.goto (-34), 3) := by decide +kernel
theorem dX10_take_51 : decode cX10_take 51 = .ok (.aload_n 0, 1) := by decide +kernel
theorem dX10_take_52 : decode cX10_take 52 = .ok (.getfield 13, 3) := by decide +kernel
theorem dX10_take_55 : decode cX10_take 55 = .ok (.sipush 360, 3) := by decide +kernel
theorem dX10_take_58 : decode cX10_take 58 = .ok (.aload_n 0, 1) := by decide +kernel
theorem dX10_take_59 : decode cX10_take 59 = .ok (.getfield 74, 3) := by decide +kernel
theorem dX10_take_62 : decode cX10_take 62 = .ok (.iastore, 1) := by decide +kernel
theorem dX10_take_63 : decode cX10_take 63 = .ok (.aload_n 0, 1) := by decide +kernel
theorem dX10_take_64 : decode cX10_take 64 = .ok (.iconst 0, 1) := by decide +kernel
theorem dX10_take_65 : decode cX10_take 65 = .ok (.putfield 85, 3) := by decide +kernel
theorem dX10_take_68 : decode cX10_take 68 = .ok (.aload_n 0, 1) := by decide +kernel
theorem dX10_take_69 : decode cX10_take 69 = .ok (.getfield 25, 3) := by decide +kernel
theorem dX10_take_72 : decode cX10_take 72 = .ok (.iconst 0, 1) := by decide +kernel
theorem dX10_take_73 : decode cX10_take 73 = .ok (.iconst 0, 1) := by decide +kernel
theorem dX10_take_74 : decode cX10_take 74 = .ok (.bastore, 1) := by decide +kernel
theorem dX10_take_75 : decode cX10_take 75 = .ok (.aload_n 0, 1) := by decide +kernel
theorem dX10_take_76 : decode cX10_take 76 = .ok (.getfield 25, 3) := by decide +kernel
theorem dX10_take_79 : decode cX10_take 79 = .ok (.iconst 1, 1) := by decide +kernel
theorem dX10_take_80 : decode cX10_take 80 = .ok (.iconst 0, 1) := by decide +kernel
theorem dX10_take_81 : decode cX10_take 81 = .ok (.bastore, 1) := by decide +kernel
theorem dX10_take_82 : decode cX10_take 82 = .ok (.aload_n 0, 1) := by decide +kernel
theorem dX10_take_83 : decode cX10_take 83 = .ok (.getfield 74, 3) := by decide +kernel
theorem dX10_take_86 : decode cX10_take 86 = .ok (.ireturn, 1) := by decide +kernel
theorem dX10_layCode_0 : decode cX10_layCode 0 = .ok (.aload_n 0, 1) := by decide +kernel
theorem dX10_layCode_1 : decode cX10_layCode 1 = .ok (.iload_n 1, 1) := by decide +kernel
theorem dX10_layCode_2 : decode cX10_layCode 2 = .ok (.sipush 10000, 3) := by decide +kernel
theorem dX10_layCode_5 : decode cX10_layCode 5 = .ok (.idiv, 1) := by decide +kernel
theorem dX10_layCode_6 : decode cX10_layCode 6 = .ok (.putfield 88, 3) := by decide +kernel
theorem dX10_layCode_9 : decode cX10_layCode 9 = .ok (.aload_n 0, 1) := by decide +kernel
theorem dX10_layCode_10 : decode cX10_layCode 10 = .ok (.iload_n 1, 1) := by decide +kernel
theorem dX10_layCode_11 : decode cX10_layCode 11 = .ok (.sipush 1000, 3) := by decide +kernel
theorem dX10_layCode_14 : decode cX10_layCode 14 = .ok (.idiv, 1) := by decide +kernel
theorem dX10_layCode_15 : decode cX10_layCode 15 = .ok (.bipush 10, 2) := by decide +kernel
theorem dX10_layCode_17 : decode cX10_layCode 17 = .ok (.irem, 1) := by decide +kernel
theorem dX10_layCode_18 : decode cX10_layCode 18 = .ok (.putfield 91, 3) := by decide +kernel
theorem dX10_layCode_21 : decode cX10_layCode 21 = .ok (.aload_n 0, 1) := by decide +kernel
theorem dX10_layCode_22 : decode cX10_layCode 22 = .ok (.iload_n 1, 1) := by decide +kernel
theorem dX10_layCode_23 : decode cX10_layCode 23 = .ok (.bipush 100, 2) := by decide +kernel
theorem dX10_layCode_25 : decode cX10_layCode 25 = .ok (.idiv, 1) := by decide +kernel
theorem dX10_layCode_26 : decode cX10_layCode 26 = .ok (.bipush 10, 2) := by decide +kernel
theorem dX10_layCode_28 : decode cX10_layCode 28 = .ok (.irem, 1) := by decide +kernel
theorem dX10_layCode_29 : decode cX10_layCode 29 = .ok (.putfield 94, 3) := by decide +kernel
theorem dX10_layCode_32 : decode cX10_layCode 32 = .ok (.aload_n 0, 1) := by decide +kernel
theorem dX10_layCode_33 : decode cX10_layCode 33 = .ok (.iload_n 1, 1) := by decide +kernel
theorem dX10_layCode_34 : decode cX10_layCode 34 = .ok (.bipush 10, 2) := by decide +kernel
theorem dX10_layCode_36 : decode cX10_layCode 36 = .ok (.idiv, 1) := by decide +kernel
theorem dX10_layCode_37 : decode cX10_layCode 37 = .ok (.bipush 10, 2) := by decide +kernel
theorem dX10_layCode_39 : decode cX10_layCode 39 = .ok (.irem, 1) := by decide +kernel
theorem dX10_layCode_40 : decode cX10_layCode 40 = .ok (.putfield 97, 3) := by decide +kernel
theorem dX10_layCode_43 : decode cX10_layCode 43 = .ok (.iload_n 1, 1) := by decide +kernel
theorem dX10_layCode_44 : decode cX10_layCode 44 = .ok (.bipush 10, 2) := by decide +kernel
theorem dX10_layCode_46 : decode cX10_layCode 46 = .ok (.irem, 1) := by decide +kernel
theorem dX10_layCode_47 : decode cX10_layCode 47 = .ok (.istore_n 2, 1) := by decide +kernel
theorem dX10_layCode_48 : decode cX10_layCode 48 = .ok (.aload_n 0, 1) := by decide +kernel
theorem dX10_layCode_49 : decode cX10_layCode 49 = .ok (.iconst 1, 1) := by decide +kernel
theorem dX10_layCode_50 : decode cX10_layCode 50 = .ok (.iload_n 2, 1) := by decide +kernel
theorem dX10_layCode_51 : decode cX10_layCode 51 = .ok (.isub, 1) := by decide +kernel
theorem dX10_layCode_52 : decode cX10_layCode 52 = .ok (.putfield 100, 3) := by decide +kernel
theorem dX10_layCode_55 : decode cX10_layCode 55 = .ok (.iload_n 1, 1) := by decide +kernel
theorem dX10_layCode_56 : decode cX10_layCode 56 = .ok (.ifCond .le 79, 3) := by decide +kernel
theorem dX10_layCode_59 : decode cX10_layCode 59 = .ok (.aload_n 0, 1) := by decide +kernel
theorem dX10_layCode_60 : decode cX10_layCode 60 = .ok (.getfield 88, 3) := by decide +kernel
theorem dX10_layCode_63 : decode cX10_layCode 63 = .ok (.i2l, 1) := by decide +kernel
theorem dX10_layCode_64 : decode cX10_layCode 64 = .ok (.lconst 1, 1) := by decide +kernel
theorem dX10_layCode_65 : decode cX10_layCode 65 = .ok (.ldc2_w 103, 3) := by decide +kernel
theorem dX10_layCode_68 : decode cX10_layCode 68 = .ok (.invokestatic 53, 3) := by decide +kernel
theorem dX10_layCode_71 : decode cX10_layCode 71 = .ok (.ifCond .eq 64, 3) := by decide +kernel
theorem dX10_layCode_74 : decode cX10_layCode 74 = .ok (.aload_n 0, 1) := by decide +kernel
theorem dX10_layCode_75 : decode cX10_layCode 75 = .ok (.getfield 91, 3) := by decide +kernel
theorem dX10_layCode_78 : decode cX10_layCode 78 = .ok (.i2l, 1) := by decide +kernel
theorem dX10_layCode_79 : decode cX10_layCode 79 = .ok (.ldc2_w 105, 3) := by decide +kernel
theorem dX10_layCode_82 : decode cX10_layCode 82 = .ok (.ldc2_w 107, 3) := by decide +kernel
theorem dX10_layCode_85 : decode cX10_layCode 85 = .ok (.invokestatic 53, 3) := by decide +kernel
theorem dX10_layCode_88 : decode cX10_layCode 88 = .ok (.ifCond .eq 47, 3) := by decide +kernel
theorem dX10_layCode_91 : decode cX10_layCode 91 = .ok (.aload_n 0, 1) := by decide +kernel
theorem dX10_layCode_92 : decode cX10_layCode 92 = .ok (.getfield 94, 3) := by decide +kernel
theorem dX10_layCode_95 : decode cX10_layCode 95 = .ok (.i2l, 1) := by decide +kernel
theorem dX10_layCode_96 : decode cX10_layCode 96 = .ok (.lconst 0, 1) := by decide +kernel
theorem dX10_layCode_97 : decode cX10_layCode 97 = .ok (.ldc2_w 109, 3) := by decide +kernel
theorem dX10_layCode_100 : decode cX10_layCode 100 = .ok (.invokestatic 53, 3) := by decide +kernel
theorem dX10_layCode_103 : decode cX10_layCode 103 = .ok (.ifCond .eq 32, 3) := by decide +kernel
theorem dX10_layCode_106 : decode cX10_layCode 106 = .ok (.aload_n 0, 1) := by decide +kernel
theorem dX10_layCode_107 : decode cX10_layCode 107 = .ok (.getfield 97, 3) := by decide +kernel
theorem dX10_layCode_110 : decode cX10_layCode 110 = .ok (.i2l, 1) := by decide +kernel
theorem dX10_layCode_111 : decode cX10_layCode 111 = .ok (.lconst 1, 1) := by decide +kernel
theorem dX10_layCode_112 : decode cX10_layCode 112 = .ok (.ldc2_w 109, 3) := by decide +kernel
theorem dX10_layCode_115 : decode cX10_layCode 115 = .ok (.invokestatic 53, 3) := by decide +kernel
theorem dX10_layCode_118 : decode cX10_layCode 118 = .ok (.ifCond .eq 17, 3) := by decide +kernel
theorem dX10_layCode_121 : decode cX10_layCode 121 = .ok (.iload_n 2, 1) := by decide +kernel
theorem dX10_layCode_122 : decode cX10_layCode 122 = .ok (.i2l, 1) := by decide +kernel
theorem dX10_layCode_123 : decode cX10_layCode 123 = .ok (.lconst 0, 1) := by decide +kernel
theorem dX10_layCode_124 : decode cX10_layCode 124 = .ok (.lconst 1, 1) := by decide +kernel
theorem dX10_layCode_125 : decode cX10_layCode 125 = .ok (.invokestatic 53, 3) := by decide +kernel
theorem dX10_layCode_128 : decode cX10_layCode 128 = .ok (.ifCond .eq 7, 3) := by decide +kernel
theorem dX10_layCode_131 : decode cX10_layCode 131 = .ok (.iconst 1, 1) := by decide +kernel
theorem dX10_layCode_132 : decode cX10_layCode 132 = .ok (.goto 4, 3) := by decide +kernel
theorem dX10_layCode_135 : decode cX10_layCode 135 = .ok (.iconst 0, 1) := by decide +kernel
theorem dX10_layCode_136 : decode cX10_layCode 136 = .ok (.ireturn, 1) := by decide +kernel
theorem dX10_frameBits_0 : decode cX10_frameBits 0 = .ok (.iconst 1, 1) := by decide +kernel
theorem dX10_frameBits_1 : decode cX10_frameBits 1 = .ok (.aload_n 0, 1) := by decide +kernel
theorem dX10_frameBits_2 : decode cX10_frameBits 2 = .ok (.getfield 91, 3) := by decide +kernel
theorem dX10_frameBits_5 : decode cX10_frameBits 5 = .ok (.iadd, 1) := by decide +kernel
theorem dX10_frameBits_6 : decode cX10_frameBits 6 = .ok (.aload_n 0, 1) := by decide +kernel
theorem dX10_frameBits_7 : decode cX10_frameBits 7 = .ok (.getfield 94, 3) := by decide +kernel
theorem dX10_frameBits_10 : decode cX10_frameBits 10 = .ok (.ifCond .le 7, 3) := by decide +kernel
theorem dX10_frameBits_13 : decode cX10_frameBits 13 = .ok (.iconst 1, 1) := by decide +kernel
theorem dX10_frameBits_14 : decode cX10_frameBits 14 = .ok (.goto 4, 3) := by decide +kernel
theorem dX10_frameBits_17 : decode cX10_frameBits 17 = .ok (.iconst 0, 1) := by decide +kernel
theorem dX10_frameBits_18 : decode cX10_frameBits 18 = .ok (.iadd, 1) := by decide +kernel
theorem dX10_frameBits_19 : decode cX10_frameBits 19 = .ok (.aload_n 0, 1) := by decide +kernel
theorem dX10_frameBits_20 : decode cX10_frameBits 20 = .ok (.getfield 97, 3) := by decide +kernel
theorem dX10_frameBits_23 : decode cX10_frameBits 23 = .ok (.iadd, 1) := by decide +kernel
theorem dX10_frameBits_24 : decode cX10_frameBits 24 = .ok (.ireturn, 1) := by decide +kernel
theorem dX10_failsBy_0 : decode cX10_failsBy 0 = .ok (.iload_n 1, 1) := by decide +kernel
theorem dX10_failsBy_1 : decode cX10_failsBy 1 = .ok (.ifCond .ne 13, 3) := by decide +kernel
theorem dX10_failsBy_4 : decode cX10_failsBy 4 = .ok (.iload_n 2, 1) := by decide +kernel
theorem dX10_failsBy_5 : decode cX10_failsBy 5 = .ok (.ifCond .eq 7, 3) := by decide +kernel
theorem dX10_failsBy_8 : decode cX10_failsBy 8 = .ok (.iconst 1, 1) := by decide +kernel
theorem dX10_failsBy_9 : decode cX10_failsBy 9 = .ok (.goto 4, 3) := by decide +kernel
theorem dX10_failsBy_12 : decode cX10_failsBy 12 = .ok (.iconst 0, 1) := by decide +kernel
theorem dX10_failsBy_13 : decode cX10_failsBy 13 = .ok (.ireturn, 1) := by decide +kernel
theorem dX10_failsBy_14 : decode cX10_failsBy 14 = .ok (.iload_n 1, 1) := by decide +kernel
theorem dX10_failsBy_15 : decode cX10_failsBy 15 = .ok (.aload_n 0, 1) := by decide +kernel
theorem dX10_failsBy_16 : decode cX10_failsBy 16 = .ok (.getfield 91, 3) := by decide +kernel
theorem dX10_failsBy_19 : decode cX10_failsBy 19 = .ok (.if_icmp .gt 5, 3) := by decide +kernel
theorem dX10_failsBy_22 : decode cX10_failsBy 22 = .ok (.iconst 0, 1) := by decide +kernel
theorem dX10_failsBy_23 : decode cX10_failsBy 23 = .ok (.ireturn, 1) := by decide +kernel
theorem dX10_failsBy_24 : decode cX10_failsBy 24 = .ok (.aload_n 0, 1) := by decide +kernel
theorem dX10_failsBy_25 : decode cX10_failsBy 25 = .ok (.getfield 94, 3) := by decide +kernel
theorem dX10_failsBy_28 : decode cX10_failsBy 28 = .ok (.ifCond .le 36, 3) := by decide +kernel
theorem dX10_failsBy_31 : decode cX10_failsBy 31 = .ok (.iload_n 1, 1) := by decide +kernel
theorem dX10_failsBy_32 : decode cX10_failsBy 32 = .ok (.aload_n 0, 1) := by decide +kernel
theorem dX10_failsBy_33 : decode cX10_failsBy 33 = .ok (.getfield 91, 3) := by decide +kernel
theorem dX10_failsBy_36 : decode cX10_failsBy 36 = .ok (.iconst 1, 1) := by decide +kernel
theorem dX10_failsBy_37 : decode cX10_failsBy 37 = .ok (.iadd, 1) := by decide +kernel
theorem dX10_failsBy_38 : decode cX10_failsBy 38 = .ok (.if_icmp .ne 26, 3) := by decide +kernel
theorem dX10_failsBy_41 : decode cX10_failsBy 41 = .ok (.iload_n 3, 1) := by decide +kernel
theorem dX10_failsBy_42 : decode cX10_failsBy 42 = .ok (.aload_n 0, 1) := by decide +kernel
theorem dX10_failsBy_43 : decode cX10_failsBy 43 = .ok (.getfield 94, 3) := by decide +kernel
theorem dX10_failsBy_46 : decode cX10_failsBy 46 = .ok (.iconst 2, 1) := by decide +kernel
theorem dX10_failsBy_47 : decode cX10_failsBy 47 = .ok (.if_icmp .ne 7, 3) := by decide +kernel
theorem dX10_failsBy_50 : decode cX10_failsBy 50 = .ok (.iconst 1, 1) := by decide +kernel
theorem dX10_failsBy_51 : decode cX10_failsBy 51 = .ok (.goto 4, 3) := by decide +kernel
theorem dX10_failsBy_54 : decode cX10_failsBy 54 = .ok (.iconst 0, 1) := by decide +kernel
theorem dX10_failsBy_55 : decode cX10_failsBy 55 = .ok (.if_icmp .ne 7, 3) := by decide +kernel
theorem dX10_failsBy_58 : decode cX10_failsBy 58 = .ok (.iconst 0, 1) := by decide +kernel
theorem dX10_failsBy_59 : decode cX10_failsBy 59 = .ok (.goto 4, 3) := by decide +kernel
theorem dX10_failsBy_62 : decode cX10_failsBy 62 = .ok (.iconst 2, 1) := by decide +kernel
theorem dX10_failsBy_63 : decode cX10_failsBy 63 = .ok (.ireturn, 1) := by decide +kernel
theorem dX10_failsBy_64 : decode cX10_failsBy 64 = .ok (.iload_n 2, 1) := by decide +kernel
theorem dX10_failsBy_65 : decode cX10_failsBy 65 = .ok (.ifCond .eq 7, 3) := by decide +kernel
theorem dX10_failsBy_68 : decode cX10_failsBy 68 = .ok (.iconst 0, 1) := by decide +kernel
theorem dX10_failsBy_69 : decode cX10_failsBy 69 = .ok (.goto 4, 3) := by decide +kernel
theorem dX10_failsBy_72 : decode cX10_failsBy 72 = .ok (.iconst 3, 1) := by decide +kernel
theorem dX10_failsBy_73 : decode cX10_failsBy 73 = .ok (.ireturn, 1) := by decide +kernel
theorem dX10_frameAt_0 : decode cX10_frameAt 0 = .ok (.iconst 0, 1) := by decide +kernel
theorem dX10_frameAt_1 : decode cX10_frameAt 1 = .ok (.istore_n 3, 1) := by decide +kernel
theorem dX10_frameAt_2 : decode cX10_frameAt 2 = .ok (.iconst 0, 1) := by decide +kernel
theorem dX10_frameAt_3 : decode cX10_frameAt 3 = .ok (.istore 4, 2) := by decide +kernel
theorem dX10_frameAt_5 : decode cX10_frameAt 5 = .ok (.aload_n 0, 1) := by decide +kernel
theorem dX10_frameAt_6 : decode cX10_frameAt 6 = .ok (.getfield 111, 3) := by decide +kernel
theorem dX10_frameAt_9 : decode cX10_frameAt 9 = .ok (.istore 5, 2) := by decide +kernel
theorem dX10_frameAt_11 : decode cX10_frameAt 11 = .ok (.iconst 0, 1) := by decide +kernel
theorem dX10_frameAt_12 : decode cX10_frameAt 12 = .ok (.istore 6, 2) := by decide +kernel
theorem dX10_frameAt_14 : decode cX10_frameAt 14 = .ok (.iload 6, 2) := by decide +kernel
theorem dX10_frameAt_16 : decode cX10_frameAt 16 = .ok (.aload_n 0, 1) := by decide +kernel
theorem dX10_frameAt_17 : decode cX10_frameAt 17 = .ok (.invokevirtual 114, 3) := by decide +kernel
theorem dX10_frameAt_20 : decode cX10_frameAt 20 = .ok (.if_icmp .ge 183, 3) := by decide +kernel
theorem dX10_frameAt_23 : decode cX10_frameAt 23 = .ok (.iload_n 2, 1) := by decide +kernel
theorem dX10_frameAt_24 : decode cX10_frameAt 24 = .ok (.aload_n 0, 1) := by decide +kernel
theorem dX10_frameAt_25 : decode cX10_frameAt 25 = .ok (.getfield 88, 3) := by decide +kernel
theorem dX10_frameAt_28 : decode cX10_frameAt 28 = .ok (.iload 6, 2) := by decide +kernel
theorem dX10_frameAt_30 : decode cX10_frameAt 30 = .ok (.imul, 1) := by decide +kernel
theorem dX10_frameAt_31 : decode cX10_frameAt 31 = .ok (.iadd, 1) := by decide +kernel
theorem dX10_frameAt_32 : decode cX10_frameAt 32 = .ok (.aload_n 0, 1) := by decide +kernel
theorem dX10_frameAt_33 : decode cX10_frameAt 33 = .ok (.getfield 88, 3) := by decide +kernel
theorem dX10_frameAt_36 : decode cX10_frameAt 36 = .ok (.iconst 2, 1) := by decide +kernel
theorem dX10_frameAt_37 : decode cX10_frameAt 37 = .ok (.idiv, 1) := by decide +kernel
theorem dX10_frameAt_38 : decode cX10_frameAt 38 = .ok (.iadd, 1) := by decide +kernel
theorem dX10_frameAt_39 : decode cX10_frameAt 39 = .ok (.istore 7, 2) := by decide +kernel
theorem dX10_frameAt_41 : decode cX10_frameAt 41 = .ok (.aload_n 1, 1) := by decide +kernel
theorem dX10_frameAt_42 : decode cX10_frameAt 42 = .ok (.iload 7, 2) := by decide +kernel
theorem dX10_frameAt_44 : decode cX10_frameAt 44 = .ok (.invokestatic 117, 3) := by decide +kernel
theorem dX10_frameAt_47 : decode cX10_frameAt 47 = .ok (.ifCond .ne 5, 3) := by decide +kernel
theorem dX10_frameAt_50 : decode cX10_frameAt 50 = .ok (.iconst 4, 1) := by decide +kernel
theorem dX10_frameAt_51 : decode cX10_frameAt 51 = .ok (.ireturn, 1) := by decide +kernel
theorem dX10_frameAt_52 : decode cX10_frameAt 52 = .ok (.aload_n 1, 1) := by decide +kernel
theorem dX10_frameAt_53 : decode cX10_frameAt 53 = .ok (.iload 7, 2) := by decide +kernel
theorem dX10_frameAt_55 : decode cX10_frameAt 55 = .ok (.iaload, 1) := by decide +kernel
theorem dX10_frameAt_56 : decode cX10_frameAt 56 = .ok (.aload_n 0, 1) := by decide +kernel
theorem dX10_frameAt_57 : decode cX10_frameAt 57 = .ok (.getfield 100, 3) := by decide +kernel
theorem dX10_frameAt_60 : decode cX10_frameAt 60 = .ok (.if_icmp .ne 7, 3) := by decide +kernel
theorem dX10_frameAt_63 : decode cX10_frameAt 63 = .ok (.iconst 1, 1) := by decide +kernel
theorem dX10_frameAt_64 : decode cX10_frameAt 64 = .ok (.goto 4, 3) := by decide +kernel
theorem dX10_frameAt_67 : decode cX10_frameAt 67 = .ok (.iconst 0, 1) := by decide +kernel
theorem dX10_frameAt_68 : decode cX10_frameAt 68 = .ok (.istore 8, 2) := by decide +kernel
theorem dX10_frameAt_70 : decode cX10_frameAt 70 = .ok (.iload 4, 2) := by decide +kernel
theorem dX10_frameAt_72 : decode cX10_frameAt 72 = .ok (.iload 8, 2) := by decide +kernel
theorem dX10_frameAt_74 : decode cX10_frameAt 74 = .ok (.ifCond .eq 34, 3) := by decide +kernel
theorem dX10_frameAt_77 : decode cX10_frameAt 77 = .ok (.iload 6, 2) := by decide +kernel
theorem dX10_frameAt_79 : decode cX10_frameAt 79 = .ok (.ifCond .le 29, 3) := by decide +kernel
theorem dX10_frameAt_82 : decode cX10_frameAt 82 = .ok (.iload 6, 2) := by decide +kernel
theorem dX10_frameAt_84 : decode cX10_frameAt 84 = .ok (.aload_n 0, 1) := by decide +kernel
theorem dX10_frameAt_85 : decode cX10_frameAt 85 = .ok (.getfield 91, 3) := by decide +kernel
theorem dX10_frameAt_88 : decode cX10_frameAt 88 = .ok (.aload_n 0, 1) := by decide +kernel
theorem dX10_frameAt_89 : decode cX10_frameAt 89 = .ok (.getfield 94, 3) := by decide +kernel
theorem dX10_frameAt_92 : decode cX10_frameAt 92 = .ok (.ifCond .le 7, 3) := by decide +kernel
theorem dX10_frameAt_95 : decode cX10_frameAt 95 = .ok (.iconst 1, 1) := by decide +kernel
theorem dX10_frameAt_96 : decode cX10_frameAt 96 = .ok (.goto 4, 3) := by decide +kernel
theorem dX10_frameAt_99 : decode cX10_frameAt 99 = .ok (.iconst 0, 1) := by decide +kernel
theorem dX10_frameAt_100 : decode cX10_frameAt 100 = .ok (.iadd, 1) := by decide +kernel
theorem dX10_frameAt_101 : decode cX10_frameAt 101 = .ok (.if_icmp .gt 7, 3) := by decide +kernel
theorem dX10_frameAt_104 : decode cX10_frameAt 104 = .ok (.iconst 1, 1) := by decide +kernel
theorem dX10_frameAt_105 : decode cX10_frameAt 105 = .ok (.goto 4, 3) := by decide +kernel
theorem dX10_frameAt_108 : decode cX10_frameAt 108 = .ok (.iconst 0, 1) := by decide +kernel
theorem dX10_frameAt_109 : decode cX10_frameAt 109 = .ok (.if_icmp .eq 7, 3) := by decide +kernel
theorem dX10_frameAt_112 : decode cX10_frameAt 112 = .ok (.iconst 1, 1) := by decide +kernel
theorem dX10_frameAt_113 : decode cX10_frameAt 113 = .ok (.goto 4, 3) := by decide +kernel
theorem dX10_frameAt_116 : decode cX10_frameAt 116 = .ok (.iconst 0, 1) := by decide +kernel
theorem dX10_frameAt_117 : decode cX10_frameAt 117 = .ok (.istore 4, 2) := by decide +kernel
theorem dX10_frameAt_119 : decode cX10_frameAt 119 = .ok (.aload_n 0, 1) := by decide +kernel
theorem dX10_frameAt_120 : decode cX10_frameAt 120 = .ok (.iload 6, 2) := by decide +kernel
theorem dX10_frameAt_122 : decode cX10_frameAt 122 = .ok (.iload 8, 2) := by decide +kernel
theorem dX10_frameAt_124 : decode cX10_frameAt 124 = .ok (.iload 4, 2) := by decide +kernel
theorem dX10_frameAt_126 : decode cX10_frameAt 126 = .ok (.invokevirtual 121, 3) := by decide +kernel
theorem dX10_frameAt_129 : decode cX10_frameAt 129 = .ok (.istore 9, 2) := by decide +kernel
theorem dX10_frameAt_131 : decode cX10_frameAt 131 = .ok (.iload 9, 2) := by decide +kernel
theorem dX10_frameAt_133 : decode cX10_frameAt 133 = .ok (.ifCond .le 6, 3) := by decide +kernel
theorem dX10_frameAt_136 : decode cX10_frameAt 136 = .ok (.iload 9, 2) := by decide +kernel
theorem dX10_frameAt_138 : decode cX10_frameAt 138 = .ok (.ireturn, 1) := by decide +kernel
theorem dX10_frameAt_139 : decode cX10_frameAt 139 = .ok (.iload_n 3, 1) := by decide +kernel
theorem dX10_frameAt_140 : decode cX10_frameAt 140 = .ok (.iload 8, 2) := by decide +kernel
theorem dX10_frameAt_142 : decode cX10_frameAt 142 = .ok (.ifCond .eq 26, 3) := by decide +kernel
theorem dX10_frameAt_145 : decode cX10_frameAt 145 = .ok (.iload 6, 2) := by decide +kernel
theorem dX10_frameAt_147 : decode cX10_frameAt 147 = .ok (.ifCond .le 21, 3) := by decide +kernel
theorem dX10_frameAt_150 : decode cX10_frameAt 150 = .ok (.iload 6, 2) := by decide +kernel
theorem dX10_frameAt_152 : decode cX10_frameAt 152 = .ok (.aload_n 0, 1) := by decide +kernel
theorem dX10_frameAt_153 : decode cX10_frameAt 153 = .ok (.getfield 91, 3) := by decide +kernel
theorem dX10_frameAt_156 : decode cX10_frameAt 156 = .ok (.if_icmp .gt 12, 3) := by decide +kernel
theorem dX10_frameAt_159 : decode cX10_frameAt 159 = .ok (.iconst 1, 1) := by decide +kernel
theorem dX10_frameAt_160 : decode cX10_frameAt 160 = .ok (.iload 6, 2) := by decide +kernel
theorem dX10_frameAt_162 : decode cX10_frameAt 162 = .ok (.iconst 1, 1) := by decide +kernel
theorem dX10_frameAt_163 : decode cX10_frameAt 163 = .ok (.isub, 1) := by decide +kernel
theorem dX10_frameAt_164 : decode cX10_frameAt 164 = .ok (.ishl, 1) := by decide +kernel
theorem dX10_frameAt_165 : decode cX10_frameAt 165 = .ok (.goto 4, 3) := by decide +kernel
theorem dX10_frameAt_168 : decode cX10_frameAt 168 = .ok (.iconst 0, 1) := by decide +kernel
theorem dX10_frameAt_169 : decode cX10_frameAt 169 = .ok (.ior, 1) := by decide +kernel
theorem dX10_frameAt_170 : decode cX10_frameAt 170 = .ok (.istore_n 3, 1) := by decide +kernel
theorem dX10_frameAt_171 : decode cX10_frameAt 171 = .ok (.aload_n 0, 1) := by decide +kernel
theorem dX10_frameAt_172 : decode cX10_frameAt 172 = .ok (.getfield 44, 3) := by decide +kernel
theorem dX10_frameAt_175 : decode cX10_frameAt 175 = .ok (.iload 7, 2) := by decide +kernel
theorem dX10_frameAt_177 : decode cX10_frameAt 177 = .ok (.iaload, 1) := by decide +kernel
theorem dX10_frameAt_178 : decode cX10_frameAt 178 = .ok (.iload 5, 2) := by decide +kernel
theorem dX10_frameAt_180 : decode cX10_frameAt 180 = .ok (.if_icmp .ge 13, 3) := by decide +kernel
theorem dX10_frameAt_183 : decode cX10_frameAt 183 = .ok (.aload_n 0, 1) := by decide +kernel
theorem dX10_frameAt_184 : decode cX10_frameAt 184 = .ok (.getfield 44, 3) := by decide +kernel
theorem dX10_frameAt_187 : decode cX10_frameAt 187 = .ok (.iload 7, 2) := by decide +kernel
theorem dX10_frameAt_189 : decode cX10_frameAt 189 = .ok (.iaload, 1) := by decide +kernel
theorem dX10_frameAt_190 : decode cX10_frameAt 190 = .ok (.goto 5, 3) := by decide +kernel
theorem dX10_frameAt_193 : decode cX10_frameAt 193 = .ok (.iload 5, 2) := by decide +kernel
theorem dX10_frameAt_195 : decode cX10_frameAt 195 = .ok (.istore 5, 2) := by decide +kernel
theorem dX10_frameAt_197 : decode cX10_frameAt 197 = .ok (.iinc 6 1, 3) := by decide +kernel
theorem dX10_frameAt_200 : decode cX10_frameAt 200 = .ok (.goto (-186), 3) := by decide +kernel
theorem dX10_frameAt_203 : decode cX10_frameAt 203 = .ok (.aload_n 0, 1) := by decide +kernel
theorem dX10_frameAt_204 : decode cX10_frameAt 204 = .ok (.iload 5, 2) := by decide +kernel
theorem dX10_frameAt_206 : decode cX10_frameAt 206 = .ok (.putfield 111, 3) := by decide +kernel
theorem dX10_frameAt_209 : decode cX10_frameAt 209 = .ok (.aload_n 0, 1) := by decide +kernel
theorem dX10_frameAt_210 : decode cX10_frameAt 210 = .ok (.getfield 35, 3) := by decide +kernel
theorem dX10_frameAt_213 : decode cX10_frameAt 213 = .ok (.aload_n 0, 1) := by decide +kernel
theorem dX10_frameAt_214 : decode cX10_frameAt 214 = .ok (.getfield 125, 3) := by decide +kernel
theorem dX10_frameAt_217 : decode cX10_frameAt 217 = .ok (.iload_n 3, 1) := by decide +kernel
theorem dX10_frameAt_218 : decode cX10_frameAt 218 = .ok (.iastore, 1) := by decide +kernel
theorem dX10_frameAt_219 : decode cX10_frameAt 219 = .ok (.aload_n 0, 1) := by decide +kernel
theorem dX10_frameAt_220 : decode cX10_frameAt 220 = .ok (.getfield 38, 3) := by decide +kernel
theorem dX10_frameAt_223 : decode cX10_frameAt 223 = .ok (.aload_n 0, 1) := by decide +kernel
theorem dX10_frameAt_224 : decode cX10_frameAt 224 = .ok (.getfield 125, 3) := by decide +kernel
theorem dX10_frameAt_227 : decode cX10_frameAt 227 = .ok (.iload_n 2, 1) := by decide +kernel
theorem dX10_frameAt_228 : decode cX10_frameAt 228 = .ok (.iastore, 1) := by decide +kernel
theorem dX10_frameAt_229 : decode cX10_frameAt 229 = .ok (.aload_n 0, 1) := by decide +kernel
theorem dX10_frameAt_230 : decode cX10_frameAt 230 = .ok (.dup, 1) := by decide +kernel
theorem dX10_frameAt_231 : decode cX10_frameAt 231 = .ok (.getfield 125, 3) := by decide +kernel
theorem dX10_frameAt_234 : decode cX10_frameAt 234 = .ok (.iconst 1, 1) := by decide +kernel
theorem dX10_frameAt_235 : decode cX10_frameAt 235 = .ok (.iadd, 1) := by decide +kernel
theorem dX10_frameAt_236 : decode cX10_frameAt 236 = .ok (.putfield 125, 3) := by decide +kernel
theorem dX10_frameAt_239 : decode cX10_frameAt 239 = .ok (.iconst 0, 1) := by decide +kernel
theorem dX10_frameAt_240 : decode cX10_frameAt 240 = .ok (.ireturn, 1) := by decide +kernel
theorem dX10_read_0 : decode cX10_read 0 = .ok (.aload_n 0, 1) := by decide +kernel
theorem dX10_read_1 : decode cX10_read 1 = .ok (.iconst 0, 1) := by decide +kernel
theorem dX10_read_2 : decode cX10_read 2 = .ok (.putfield 125, 3) := by decide +kernel
theorem dX10_read_5 : decode cX10_read 5 = .ok (.aload_n 0, 1) := by decide +kernel
theorem dX10_read_6 : decode cX10_read 6 = .ok (.iconst 0, 1) := by decide +kernel
theorem dX10_read_7 : decode cX10_read 7 = .ok (.putfield 128, 3) := by decide +kernel
theorem dX10_read_10 : decode cX10_read 10 = .ok (.aload_n 0, 1) := by decide +kernel
theorem dX10_read_11 : decode cX10_read 11 = .ok (.bipush (-9), 2) := by decide +kernel
theorem dX10_read_13 : decode cX10_read 13 = .ok (.putfield 131, 3) := by decide +kernel
theorem dX10_read_16 : decode cX10_read 16 = .ok (.aload_n 0, 1) := by decide +kernel
theorem dX10_read_17 : decode cX10_read 17 = .ok (.sipush 360, 3) := by decide +kernel
theorem dX10_read_20 : decode cX10_read 20 = .ok (.putfield 111, 3) := by decide +kernel
theorem dX10_read_23 : decode cX10_read 23 = .ok (.iconst 1, 1) := by decide +kernel
theorem dX10_read_24 : decode cX10_read 24 = .ok (.istore_n 2, 1) := by decide +kernel
theorem dX10_read_25 : decode cX10_read 25 = .ok (.iload_n 2, 1) := by decide +kernel
theorem dX10_read_26 : decode cX10_read 26 = .ok (.aload_n 1, 1) := by decide +kernel
theorem dX10_read_27 : decode cX10_read 27 = .ok (.sipush 360, 3) := by decide +kernel
theorem dX10_read_30 : decode cX10_read 30 = .ok (.iaload, 1) := by decide +kernel
theorem dX10_read_31 : decode cX10_read 31 = .ok (.if_icmp .ge 89, 3) := by decide +kernel
theorem dX10_read_34 : decode cX10_read 34 = .ok (.aload_n 0, 1) := by decide +kernel
theorem dX10_read_35 : decode cX10_read 35 = .ok (.getfield 128, 3) := by decide +kernel
theorem dX10_read_38 : decode cX10_read 38 = .ok (.ifCond .ne 82, 3) := by decide +kernel
theorem dX10_read_41 : decode cX10_read 41 = .ok (.aload_n 1, 1) := by decide +kernel
theorem dX10_read_42 : decode cX10_read 42 = .ok (.iload_n 2, 1) := by decide +kernel
theorem dX10_read_43 : decode cX10_read 43 = .ok (.iaload, 1) := by decide +kernel
theorem dX10_read_44 : decode cX10_read 44 = .ok (.aload_n 0, 1) := by decide +kernel
theorem dX10_read_45 : decode cX10_read 45 = .ok (.getfield 100, 3) := by decide +kernel
theorem dX10_read_48 : decode cX10_read 48 = .ok (.if_icmp .eq 66, 3) := by decide +kernel
theorem dX10_read_51 : decode cX10_read 51 = .ok (.aload_n 1, 1) := by decide +kernel
theorem dX10_read_52 : decode cX10_read 52 = .ok (.iload_n 2, 1) := by decide +kernel
theorem dX10_read_53 : decode cX10_read 53 = .ok (.iconst 1, 1) := by decide +kernel
theorem dX10_read_54 : decode cX10_read 54 = .ok (.isub, 1) := by decide +kernel
theorem dX10_read_55 : decode cX10_read 55 = .ok (.iaload, 1) := by decide +kernel
theorem dX10_read_56 : decode cX10_read 56 = .ok (.aload_n 0, 1) := by decide +kernel
theorem dX10_read_57 : decode cX10_read 57 = .ok (.getfield 100, 3) := by decide +kernel
theorem dX10_read_60 : decode cX10_read 60 = .ok (.if_icmp .ne 54, 3) := by decide +kernel
theorem dX10_read_63 : decode cX10_read 63 = .ok (.aload_n 0, 1) := by decide +kernel
theorem dX10_read_64 : decode cX10_read 64 = .ok (.aload_n 0, 1) := by decide +kernel
theorem dX10_read_65 : decode cX10_read 65 = .ok (.aload_n 1, 1) := by decide +kernel
theorem dX10_read_66 : decode cX10_read 66 = .ok (.iload_n 2, 1) := by decide +kernel
theorem dX10_read_67 : decode cX10_read 67 = .ok (.invokevirtual 134, 3) := by decide +kernel
theorem dX10_read_70 : decode cX10_read 70 = .ok (.putfield 128, 3) := by decide +kernel
theorem dX10_read_73 : decode cX10_read 73 = .ok (.aload_n 0, 1) := by decide +kernel
theorem dX10_read_74 : decode cX10_read 74 = .ok (.aload_n 0, 1) := by decide +kernel
theorem dX10_read_75 : decode cX10_read 75 = .ok (.getfield 128, 3) := by decide +kernel
theorem dX10_read_78 : decode cX10_read 78 = .ok (.ifCond .le 7, 3) := by decide +kernel
theorem dX10_read_81 : decode cX10_read 81 = .ok (.iload_n 2, 1) := by decide +kernel
theorem dX10_read_82 : decode cX10_read 82 = .ok (.goto 5, 3) := by decide +kernel
theorem dX10_read_85 : decode cX10_read 85 = .ok (.bipush (-9), 2) := by decide +kernel
theorem dX10_read_87 : decode cX10_read 87 = .ok (.putfield 131, 3) := by decide +kernel
theorem dX10_read_90 : decode cX10_read 90 = .ok (.iload_n 2, 1) := by decide +kernel
theorem dX10_read_91 : decode cX10_read 91 = .ok (.aload_n 0, 1) := by decide +kernel
theorem dX10_read_92 : decode cX10_read 92 = .ok (.getfield 88, 3) := by decide +kernel
theorem dX10_read_95 : decode cX10_read 95 = .ok (.aload_n 0, 1) := by decide +kernel
theorem dX10_read_96 : decode cX10_read 96 = .ok (.invokevirtual 114, 3) := by decide +kernel
theorem dX10_read_99 : decode cX10_read 99 = .ok (.iconst 1, 1) := by decide +kernel
theorem dX10_read_100 : decode cX10_read 100 = .ok (.isub, 1) := by decide +kernel
theorem dX10_read_101 : decode cX10_read 101 = .ok (.imul, 1) := by decide +kernel
theorem dX10_read_102 : decode cX10_read 102 = .ok (.aload_n 0, 1) := by decide +kernel
theorem dX10_read_103 : decode cX10_read 103 = .ok (.getfield 88, 3) := by decide +kernel
theorem dX10_read_106 : decode cX10_read 106 = .ok (.iconst 2, 1) := by decide +kernel
theorem dX10_read_107 : decode cX10_read 107 = .ok (.idiv, 1) := by decide +kernel
theorem dX10_read_108 : decode cX10_read 108 = .ok (.iadd, 1) := by decide +kernel
theorem dX10_read_109 : decode cX10_read 109 = .ok (.iadd, 1) := by decide +kernel
theorem dX10_read_110 : decode cX10_read 110 = .ok (.istore_n 2, 1) := by decide +kernel
theorem dX10_read_111 : decode cX10_read 111 = .ok (.goto (-86), 3) := by decide +kernel
theorem dX10_read_114 : decode cX10_read 114 = .ok (.iinc 2 1, 3) := by decide +kernel
theorem dX10_read_117 : decode cX10_read 117 = .ok (.goto (-92), 3) := by decide +kernel
theorem dX10_read_120 : decode cX10_read 120 = .ok (.return_, 1) := by decide +kernel
theorem dX10_fits_0 : decode cX10_fits 0 = .ok (.aload_n 0, 1) := by decide +kernel
theorem dX10_fits_1 : decode cX10_fits 1 = .ok (.getfield 128, 3) := by decide +kernel
theorem dX10_fits_4 : decode cX10_fits 4 = .ok (.ifCond .ne 14, 3) := by decide +kernel
theorem dX10_fits_7 : decode cX10_fits 7 = .ok (.aload_n 0, 1) := by decide +kernel
theorem dX10_fits_8 : decode cX10_fits 8 = .ok (.getfield 125, 3) := by decide +kernel
theorem dX10_fits_11 : decode cX10_fits 11 = .ok (.ifCond .le 7, 3) := by decide +kernel
theorem dX10_fits_14 : decode cX10_fits 14 = .ok (.iconst 1, 1) := by decide +kernel
theorem dX10_fits_15 : decode cX10_fits 15 = .ok (.goto 4, 3) := by decide +kernel
theorem dX10_fits_18 : decode cX10_fits 18 = .ok (.iconst 0, 1) := by decide +kernel
theorem dX10_fits_19 : decode cX10_fits 19 = .ok (.ireturn, 1) := by decide +kernel
theorem dX10_layDeep_0 : decode cX10_layDeep 0 = .ok (.aload_n 1, 1) := by decide +kernel
theorem dX10_layDeep_1 : decode cX10_layDeep 1 = .ok (.sipush 360, 3) := by decide +kernel
theorem dX10_layDeep_4 : decode cX10_layDeep 4 = .ok (.iaload, 1) := by decide +kernel
theorem dX10_layDeep_5 : decode cX10_layDeep 5 = .ok (.istore_n 2, 1) := by decide +kernel
theorem dX10_layDeep_6 : decode cX10_layDeep 6 = .ok (.iconst 0, 1) := by decide +kernel
theorem dX10_layDeep_7 : decode cX10_layDeep 7 = .ok (.istore_n 3, 1) := by decide +kernel
theorem dX10_layDeep_8 : decode cX10_layDeep 8 = .ok (.iload_n 3, 1) := by decide +kernel
theorem dX10_layDeep_9 : decode cX10_layDeep 9 = .ok (.iload_n 2, 1) := by decide +kernel
theorem dX10_layDeep_10 : decode cX10_layDeep 10 = .ok (.if_icmp .ge 44, 3) := by decide +kernel
theorem dX10_layDeep_13 : decode cX10_layDeep 13 = .ok (.aload_n 0, 1) := by decide +kernel
theorem dX10_layDeep_14 : decode cX10_layDeep 14 = .ok (.getfield 44, 3) := by decide +kernel
theorem dX10_layDeep_17 : decode cX10_layDeep 17 = .ok (.iload_n 3, 1) := by decide +kernel
theorem dX10_layDeep_18 : decode cX10_layDeep 18 = .ok (.iload_n 3, 1) := by decide +kernel
theorem dX10_layDeep_19 : decode cX10_layDeep 19 = .ok (.ifCond .le 27, 3) := by decide +kernel
theorem dX10_layDeep_22 : decode cX10_layDeep 22 = .ok (.aload_n 1, 1) := by decide +kernel
theorem dX10_layDeep_23 : decode cX10_layDeep 23 = .ok (.iload_n 3, 1) := by decide +kernel
theorem dX10_layDeep_24 : decode cX10_layDeep 24 = .ok (.iaload, 1) := by decide +kernel
theorem dX10_layDeep_25 : decode cX10_layDeep 25 = .ok (.aload_n 1, 1) := by decide +kernel
theorem dX10_layDeep_26 : decode cX10_layDeep 26 = .ok (.iload_n 3, 1) := by decide +kernel
theorem dX10_layDeep_27 : decode cX10_layDeep 27 = .ok (.iconst 1, 1) := by decide +kernel
theorem dX10_layDeep_28 : decode cX10_layDeep 28 = .ok (.isub, 1) := by decide +kernel
theorem dX10_layDeep_29 : decode cX10_layDeep 29 = .ok (.iaload, 1) := by decide +kernel
theorem dX10_layDeep_30 : decode cX10_layDeep 30 = .ok (.if_icmp .ne 16, 3) := by decide +kernel
theorem dX10_layDeep_33 : decode cX10_layDeep 33 = .ok (.aload_n 0, 1) := by decide +kernel
theorem dX10_layDeep_34 : decode cX10_layDeep 34 = .ok (.getfield 44, 3) := by decide +kernel
theorem dX10_layDeep_37 : decode cX10_layDeep 37 = .ok (.iload_n 3, 1) := by decide +kernel
theorem dX10_layDeep_38 : decode cX10_layDeep 38 = .ok (.iconst 1, 1) := by decide +kernel
theorem dX10_layDeep_39 : decode cX10_layDeep 39 = .ok (.isub, 1) := by decide +kernel
theorem dX10_layDeep_40 : decode cX10_layDeep 40 = .ok (.iaload, 1) := by decide +kernel
theorem dX10_layDeep_41 : decode cX10_layDeep 41 = .ok (.iconst 1, 1) := by decide +kernel
theorem dX10_layDeep_42 : decode cX10_layDeep 42 = .ok (.iadd, 1) := by decide +kernel
theorem dX10_layDeep_43 : decode cX10_layDeep 43 = .ok (.goto 4, 3) := by decide +kernel
theorem dX10_layDeep_46 : decode cX10_layDeep 46 = .ok (.iconst 0, 1) := by decide +kernel
theorem dX10_layDeep_47 : decode cX10_layDeep 47 = .ok (.iastore, 1) := by decide +kernel
theorem dX10_layDeep_48 : decode cX10_layDeep 48 = .ok (.iinc 3 1, 3) := by decide +kernel
theorem dX10_layDeep_51 : decode cX10_layDeep 51 = .ok (.goto (-43), 3) := by decide +kernel
theorem dX10_layDeep_54 : decode cX10_layDeep 54 = .ok (.iconst 0, 1) := by decide +kernel
theorem dX10_layDeep_55 : decode cX10_layDeep 55 = .ok (.istore_n 3, 1) := by decide +kernel
theorem dX10_layDeep_56 : decode cX10_layDeep 56 = .ok (.iload_n 2, 1) := by decide +kernel
theorem dX10_layDeep_57 : decode cX10_layDeep 57 = .ok (.iconst 1, 1) := by decide +kernel
theorem dX10_layDeep_58 : decode cX10_layDeep 58 = .ok (.isub, 1) := by decide +kernel
theorem dX10_layDeep_59 : decode cX10_layDeep 59 = .ok (.istore 4, 2) := by decide +kernel
theorem dX10_layDeep_61 : decode cX10_layDeep 61 = .ok (.iload 4, 2) := by decide +kernel
theorem dX10_layDeep_63 : decode cX10_layDeep 63 = .ok (.ifCond .lt 67, 3) := by decide +kernel
theorem dX10_layDeep_66 : decode cX10_layDeep 66 = .ok (.iload 4, 2) := by decide +kernel
theorem dX10_layDeep_68 : decode cX10_layDeep 68 = .ok (.iload_n 2, 1) := by decide +kernel
theorem dX10_layDeep_69 : decode cX10_layDeep 69 = .ok (.iconst 1, 1) := by decide +kernel
theorem dX10_layDeep_70 : decode cX10_layDeep 70 = .ok (.isub, 1) := by decide +kernel
theorem dX10_layDeep_71 : decode cX10_layDeep 71 = .ok (.if_icmp .ge 22, 3) := by decide +kernel
theorem dX10_layDeep_74 : decode cX10_layDeep 74 = .ok (.aload_n 1, 1) := by decide +kernel
theorem dX10_layDeep_75 : decode cX10_layDeep 75 = .ok (.iload 4, 2) := by decide +kernel
theorem dX10_layDeep_77 : decode cX10_layDeep 77 = .ok (.iaload, 1) := by decide +kernel
theorem dX10_layDeep_78 : decode cX10_layDeep 78 = .ok (.aload_n 1, 1) := by decide +kernel
theorem dX10_layDeep_79 : decode cX10_layDeep 79 = .ok (.iload 4, 2) := by decide +kernel
theorem dX10_layDeep_81 : decode cX10_layDeep 81 = .ok (.iconst 1, 1) := by decide +kernel
theorem dX10_layDeep_82 : decode cX10_layDeep 82 = .ok (.iadd, 1) := by decide +kernel
theorem dX10_layDeep_83 : decode cX10_layDeep 83 = .ok (.iaload, 1) := by decide +kernel
theorem dX10_layDeep_84 : decode cX10_layDeep 84 = .ok (.if_icmp .ne 9, 3) := by decide +kernel
theorem dX10_layDeep_87 : decode cX10_layDeep 87 = .ok (.iload_n 3, 1) := by decide +kernel
theorem dX10_layDeep_88 : decode cX10_layDeep 88 = .ok (.iconst 1, 1) := by decide +kernel
theorem dX10_layDeep_89 : decode cX10_layDeep 89 = .ok (.iadd, 1) := by decide +kernel
theorem dX10_layDeep_90 : decode cX10_layDeep 90 = .ok (.goto 4, 3) := by decide +kernel
theorem dX10_layDeep_93 : decode cX10_layDeep 93 = .ok (.iconst 0, 1) := by decide +kernel
theorem dX10_layDeep_94 : decode cX10_layDeep 94 = .ok (.istore_n 3, 1) := by decide +kernel
theorem dX10_layDeep_95 : decode cX10_layDeep 95 = .ok (.aload_n 0, 1) := by decide +kernel
theorem dX10_layDeep_96 : decode cX10_layDeep 96 = .ok (.getfield 44, 3) := by decide +kernel
theorem dX10_layDeep_99 : decode cX10_layDeep 99 = .ok (.iload 4, 2) := by decide +kernel
theorem dX10_layDeep_101 : decode cX10_layDeep 101 = .ok (.iload_n 3, 1) := by decide +kernel
theorem dX10_layDeep_102 : decode cX10_layDeep 102 = .ok (.aload_n 0, 1) := by decide +kernel
theorem dX10_layDeep_103 : decode cX10_layDeep 103 = .ok (.getfield 44, 3) := by decide +kernel
theorem dX10_layDeep_106 : decode cX10_layDeep 106 = .ok (.iload 4, 2) := by decide +kernel
theorem dX10_layDeep_108 : decode cX10_layDeep 108 = .ok (.iaload, 1) := by decide +kernel
theorem dX10_layDeep_109 : decode cX10_layDeep 109 = .ok (.if_icmp .ge 7, 3) := by decide +kernel
theorem dX10_layDeep_112 : decode cX10_layDeep 112 = .ok (.iload_n 3, 1) := by decide +kernel
theorem dX10_layDeep_113 : decode cX10_layDeep 113 = .ok (.goto 10, 3) := by decide +kernel
theorem dX10_layDeep_116 : decode cX10_layDeep 116 = .ok (.aload_n 0, 1) := by decide +kernel
theorem dX10_layDeep_117 : decode cX10_layDeep 117 = .ok (.getfield 44, 3) := by decide +kernel
theorem dX10_layDeep_120 : decode cX10_layDeep 120 = .ok (.iload 4, 2) := by decide +kernel
theorem dX10_layDeep_122 : decode cX10_layDeep 122 = .ok (.iaload, 1) := by decide +kernel
theorem dX10_layDeep_123 : decode cX10_layDeep 123 = .ok (.iastore, 1) := by decide +kernel
theorem dX10_layDeep_124 : decode cX10_layDeep 124 = .ok (.iinc 4 (-1), 3) := by decide +kernel
theorem dX10_layDeep_127 : decode cX10_layDeep 127 = .ok (.goto (-66), 3) := by decide +kernel
theorem dX10_layDeep_130 : decode cX10_layDeep 130 = .ok (.return_, 1) := by decide +kernel
theorem dX10_codeOf_0 : decode cX10_codeOf 0 = .ok (.sipush 10000, 3) := by decide +kernel
theorem dX10_codeOf_3 : decode cX10_codeOf 3 = .ok (.iload_n 0, 1) := by decide +kernel
theorem dX10_codeOf_4 : decode cX10_codeOf 4 = .ok (.bipush 48, 2) := by decide +kernel
theorem dX10_codeOf_6 : decode cX10_codeOf 6 = .ok (.idiv, 1) := by decide +kernel
theorem dX10_codeOf_7 : decode cX10_codeOf 7 = .ok (.iconst 1, 1) := by decide +kernel
theorem dX10_codeOf_8 : decode cX10_codeOf 8 = .ok (.iadd, 1) := by decide +kernel
theorem dX10_codeOf_9 : decode cX10_codeOf 9 = .ok (.imul, 1) := by decide +kernel
theorem dX10_codeOf_10 : decode cX10_codeOf 10 = .ok (.sipush 1000, 3) := by decide +kernel
theorem dX10_codeOf_13 : decode cX10_codeOf 13 = .ok (.iload_n 0, 1) := by decide +kernel
theorem dX10_codeOf_14 : decode cX10_codeOf 14 = .ok (.bipush 12, 2) := by decide +kernel
theorem dX10_codeOf_16 : decode cX10_codeOf 16 = .ok (.idiv, 1) := by decide +kernel
theorem dX10_codeOf_17 : decode cX10_codeOf 17 = .ok (.iconst 4, 1) := by decide +kernel
theorem dX10_codeOf_18 : decode cX10_codeOf 18 = .ok (.irem, 1) := by decide +kernel
theorem dX10_codeOf_19 : decode cX10_codeOf 19 = .ok (.iconst 5, 1) := by decide +kernel
theorem dX10_codeOf_20 : decode cX10_codeOf 20 = .ok (.iadd, 1) := by decide +kernel
theorem dX10_codeOf_21 : decode cX10_codeOf 21 = .ok (.imul, 1) := by decide +kernel
theorem dX10_codeOf_22 : decode cX10_codeOf 22 = .ok (.iadd, 1) := by decide +kernel
theorem dX10_codeOf_23 : decode cX10_codeOf 23 = .ok (.bipush 100, 2) := by decide +kernel
theorem dX10_codeOf_25 : decode cX10_codeOf 25 = .ok (.iload_n 0, 1) := by decide +kernel
theorem dX10_codeOf_26 : decode cX10_codeOf 26 = .ok (.iconst 4, 1) := by decide +kernel
theorem dX10_codeOf_27 : decode cX10_codeOf 27 = .ok (.idiv, 1) := by decide +kernel
theorem dX10_codeOf_28 : decode cX10_codeOf 28 = .ok (.iconst 3, 1) := by decide +kernel
theorem dX10_codeOf_29 : decode cX10_codeOf 29 = .ok (.irem, 1) := by decide +kernel
theorem dX10_codeOf_30 : decode cX10_codeOf 30 = .ok (.imul, 1) := by decide +kernel
theorem dX10_codeOf_31 : decode cX10_codeOf 31 = .ok (.iadd, 1) := by decide +kernel
theorem dX10_codeOf_32 : decode cX10_codeOf 32 = .ok (.bipush 10, 2) := by decide +kernel
theorem dX10_codeOf_34 : decode cX10_codeOf 34 = .ok (.iload_n 0, 1) := by decide +kernel
theorem dX10_codeOf_35 : decode cX10_codeOf 35 = .ok (.iconst 2, 1) := by decide +kernel
theorem dX10_codeOf_36 : decode cX10_codeOf 36 = .ok (.idiv, 1) := by decide +kernel
theorem dX10_codeOf_37 : decode cX10_codeOf 37 = .ok (.iconst 2, 1) := by decide +kernel
theorem dX10_codeOf_38 : decode cX10_codeOf 38 = .ok (.irem, 1) := by decide +kernel
theorem dX10_codeOf_39 : decode cX10_codeOf 39 = .ok (.iconst 1, 1) := by decide +kernel
theorem dX10_codeOf_40 : decode cX10_codeOf 40 = .ok (.iadd, 1) := by decide +kernel
theorem dX10_codeOf_41 : decode cX10_codeOf 41 = .ok (.imul, 1) := by decide +kernel
theorem dX10_codeOf_42 : decode cX10_codeOf 42 = .ok (.iadd, 1) := by decide +kernel
theorem dX10_codeOf_43 : decode cX10_codeOf 43 = .ok (.iload_n 0, 1) := by decide +kernel
theorem dX10_codeOf_44 : decode cX10_codeOf 44 = .ok (.iconst 2, 1) := by decide +kernel
theorem dX10_codeOf_45 : decode cX10_codeOf 45 = .ok (.irem, 1) := by decide +kernel
theorem dX10_codeOf_46 : decode cX10_codeOf 46 = .ok (.iadd, 1) := by decide +kernel
theorem dX10_codeOf_47 : decode cX10_codeOf 47 = .ok (.ireturn, 1) := by decide +kernel
theorem dX10_isAsBest_0 : decode cX10_isAsBest 0 = .ok (.aload_n 0, 1) := by decide +kernel
theorem dX10_isAsBest_1 : decode cX10_isAsBest 1 = .ok (.getfield 125, 3) := by decide +kernel
theorem dX10_isAsBest_4 : decode cX10_isAsBest 4 = .ok (.aload_n 0, 1) := by decide +kernel
theorem dX10_isAsBest_5 : decode cX10_isAsBest 5 = .ok (.getfield 138, 3) := by decide +kernel
theorem dX10_isAsBest_8 : decode cX10_isAsBest 8 = .ok (.if_icmp .ne 7, 3) := by decide +kernel
theorem dX10_isAsBest_11 : decode cX10_isAsBest 11 = .ok (.iconst 1, 1) := by decide +kernel
theorem dX10_isAsBest_12 : decode cX10_isAsBest 12 = .ok (.goto 4, 3) := by decide +kernel
theorem dX10_isAsBest_15 : decode cX10_isAsBest 15 = .ok (.iconst 0, 1) := by decide +kernel
theorem dX10_isAsBest_16 : decode cX10_isAsBest 16 = .ok (.istore_n 1, 1) := by decide +kernel
theorem dX10_isAsBest_17 : decode cX10_isAsBest 17 = .ok (.iconst 0, 1) := by decide +kernel
theorem dX10_isAsBest_18 : decode cX10_isAsBest 18 = .ok (.istore_n 2, 1) := by decide +kernel
theorem dX10_isAsBest_19 : decode cX10_isAsBest 19 = .ok (.iload_n 2, 1) := by decide +kernel
