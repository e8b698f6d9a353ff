theorem dX9_isBestBit_1 : decode cX9_isBestBit 1 = .ok (.ifCond .eq 10, 3) := by decide +kernel
theorem dX9_isBestBit_4 : decode cX9_isBestBit 4 = .ok (.iload_n 2, 1) := by decide +kernel
theorem dX9_isBestBit_5 : decode cX9_isBestBit 5 = .ok (.iconst 1, 1) := by decide +kernel
theorem dX9_isBestBit_6 : decode cX9_isBestBit 6 = .ok (.if_icmp .eq 5, 3) := by decide +kernel
theorem dX9_isBestBit_9 : decode cX9_isBestBit 9 = .ok (.iconst 0, 1) := by decide +kernel
theorem dX9_isBestBit_10 : decode cX9_isBestBit 10 = .ok (.ireturn, 1) := by decide +kernel
theorem dX9_isBestBit_11 : decode cX9_isBestBit 11 = .ok (.aload_n 0, 1) := by decide +kernel
theorem dX9_isBestBit_12 : decode cX9_isBestBit 12 = .ok (.getfield 64, 3) := by decide +kernel
theorem dX9_isBestBit_15 : decode cX9_isBestBit 15 = .ok (.aload_n 0, 1) := by decide +kernel
theorem dX9_isBestBit_16 : decode cX9_isBestBit 16 = .ok (.getfield 23, 3) := by decide +kernel
theorem dX9_isBestBit_19 : decode cX9_isBestBit 19 = .ok (.aload_n 0, 1) := by decide +kernel
theorem dX9_isBestBit_20 : decode cX9_isBestBit 20 = .ok (.getfield 57, 3) := by decide +kernel
theorem dX9_isBestBit_23 : decode cX9_isBestBit 23 = .ok (.invokevirtual 119, 3) := by decide +kernel
theorem dX9_isBestBit_26 : decode cX9_isBestBit 26 = .ok (.aload_n 0, 1) := by decide +kernel
theorem dX9_isBestBit_27 : decode cX9_isBestBit 27 = .ok (.getfield 64, 3) := by decide +kernel
theorem dX9_isBestBit_30 : decode cX9_isBestBit 30 = .ok (.getfield 126, 3) := by decide +kernel
theorem dX9_isBestBit_33 : decode cX9_isBestBit 33 = .ok (.bipush (-9), 2) := by decide +kernel
theorem dX9_isBestBit_35 : decode cX9_isBestBit 35 = .ok (.if_icmp .eq 22, 3) := by decide +kernel
theorem dX9_isBestBit_38 : decode cX9_isBestBit 38 = .ok (.aload_n 0, 1) := by decide +kernel
theorem dX9_isBestBit_39 : decode cX9_isBestBit 39 = .ok (.getfield 64, 3) := by decide +kernel
theorem dX9_isBestBit_42 : decode cX9_isBestBit 42 = .ok (.getfield 126, 3) := by decide +kernel
theorem dX9_isBestBit_45 : decode cX9_isBestBit 45 = .ok (.sipush 10000, 3) := by decide +kernel
theorem dX9_isBestBit_48 : decode cX9_isBestBit 48 = .ok (.idiv, 1) := by decide +kernel
theorem dX9_isBestBit_49 : decode cX9_isBestBit 49 = .ok (.iload_n 1, 1) := by decide +kernel
theorem dX9_isBestBit_50 : decode cX9_isBestBit 50 = .ok (.if_icmp .ne 7, 3) := by decide +kernel
theorem dX9_isBestBit_53 : decode cX9_isBestBit 53 = .ok (.iconst 1, 1) := by decide +kernel
theorem dX9_isBestBit_54 : decode cX9_isBestBit 54 = .ok (.goto 4, 3) := by decide +kernel
theorem dX9_isBestBit_57 : decode cX9_isBestBit 57 = .ok (.iconst 0, 1) := by decide +kernel
theorem dX9_isBestBit_58 : decode cX9_isBestBit 58 = .ok (.istore_n 3, 1) := by decide +kernel
theorem dX9_isBestBit_59 : decode cX9_isBestBit 59 = .ok (.iload_n 3, 1) := by decide +kernel
theorem dX9_isBestBit_60 : decode cX9_isBestBit 60 = .ok (.iload_n 2, 1) := by decide +kernel
theorem dX9_isBestBit_61 : decode cX9_isBestBit 61 = .ok (.iconst 1, 1) := by decide +kernel
theorem dX9_isBestBit_62 : decode cX9_isBestBit 62 = .ok (.if_icmp .ne 7, 3) := by decide +kernel
theorem dX9_isBestBit_65 : decode cX9_isBestBit 65 = .ok (.iconst 1, 1) := by decide +kernel
theorem dX9_isBestBit_66 : decode cX9_isBestBit 66 = .ok (.goto 4, 3) := by decide +kernel
theorem dX9_isBestBit_69 : decode cX9_isBestBit 69 = .ok (.iconst 0, 1) := by decide +kernel
theorem dX9_isBestBit_70 : decode cX9_isBestBit 70 = .ok (.if_icmp .ne 7, 3) := by decide +kernel
theorem dX9_isBestBit_73 : decode cX9_isBestBit 73 = .ok (.iconst 1, 1) := by decide +kernel
theorem dX9_isBestBit_74 : decode cX9_isBestBit 74 = .ok (.goto 4, 3) := by decide +kernel
theorem dX9_isBestBit_77 : decode cX9_isBestBit 77 = .ok (.iconst 0, 1) := by decide +kernel
theorem dX9_isBestBit_78 : decode cX9_isBestBit 78 = .ok (.ireturn, 1) := by decide +kernel
theorem dX9_findShakyTicks_0 : decode cX9_findShakyTicks 0 = .ok (.iconst 0, 1) := by decide +kernel
theorem dX9_findShakyTicks_1 : decode cX9_findShakyTicks 1 = .ok (.istore_n 2, 1) := by decide +kernel
theorem dX9_findShakyTicks_2 : decode cX9_findShakyTicks 2 = .ok (.iconst 1, 1) := by decide +kernel
theorem dX9_findShakyTicks_3 : decode cX9_findShakyTicks 3 = .ok (.istore_n 3, 1) := by decide +kernel
theorem dX9_findShakyTicks_4 : decode cX9_findShakyTicks 4 = .ok (.iload_n 3, 1) := by decide +kernel
theorem dX9_findShakyTicks_5 : decode cX9_findShakyTicks 5 = .ok (.aload_n 0, 1) := by decide +kernel
theorem dX9_findShakyTicks_6 : decode cX9_findShakyTicks 6 = .ok (.getfield 19, 3) := by decide +kernel
theorem dX9_findShakyTicks_9 : decode cX9_findShakyTicks 9 = .ok (.getfield 104, 3) := by decide +kernel
theorem dX9_findShakyTicks_12 : decode cX9_findShakyTicks 12 = .ok (.if_icmp .ge 41, 3) := by decide +kernel
theorem dX9_findShakyTicks_15 : decode cX9_findShakyTicks 15 = .ok (.iload_n 2, 1) := by decide +kernel
theorem dX9_findShakyTicks_16 : decode cX9_findShakyTicks 16 = .ok (.iload_n 1, 1) := by decide +kernel
theorem dX9_findShakyTicks_17 : decode cX9_findShakyTicks 17 = .ok (.if_icmp .ge 36, 3) := by decide +kernel
theorem dX9_findShakyTicks_20 : decode cX9_findShakyTicks 20 = .ok (.iload_n 2, 1) := by decide +kernel
theorem dX9_findShakyTicks_21 : decode cX9_findShakyTicks 21 = .ok (.bipush 6, 2) := by decide +kernel
theorem dX9_findShakyTicks_23 : decode cX9_findShakyTicks 23 = .ok (.if_icmp .ge 30, 3) := by decide +kernel
theorem dX9_findShakyTicks_26 : decode cX9_findShakyTicks 26 = .ok (.aload_n 0, 1) := by decide +kernel
theorem dX9_findShakyTicks_27 : decode cX9_findShakyTicks 27 = .ok (.getfield 19, 3) := by decide +kernel
theorem dX9_findShakyTicks_30 : decode cX9_findShakyTicks 30 = .ok (.iload_n 3, 1) := by decide +kernel
theorem dX9_findShakyTicks_31 : decode cX9_findShakyTicks 31 = .ok (.invokevirtual 293, 3) := by decide +kernel
theorem dX9_findShakyTicks_34 : decode cX9_findShakyTicks 34 = .ok (.ifCond .eq 13, 3) := by decide +kernel
theorem dX9_findShakyTicks_37 : decode cX9_findShakyTicks 37 = .ok (.aload_n 0, 1) := by decide +kernel
theorem dX9_findShakyTicks_38 : decode cX9_findShakyTicks 38 = .ok (.getfield 68, 3) := by decide +kernel
theorem dX9_findShakyTicks_41 : decode cX9_findShakyTicks 41 = .ok (.iload_n 2, 1) := by decide +kernel
theorem dX9_findShakyTicks_42 : decode cX9_findShakyTicks 42 = .ok (.iload_n 3, 1) := by decide +kernel
theorem dX9_findShakyTicks_43 : decode cX9_findShakyTicks 43 = .ok (.iastore, 1) := by decide +kernel
theorem dX9_findShakyTicks_44 : decode cX9_findShakyTicks 44 = .ok (.iinc 2 1, 3) := by decide +kernel
theorem dX9_findShakyTicks_47 : decode cX9_findShakyTicks 47 = .ok (.iinc 3 1, 3) := by decide +kernel
theorem dX9_findShakyTicks_50 : decode cX9_findShakyTicks 50 = .ok (.goto (-46), 3) := by decide +kernel
theorem dX9_findShakyTicks_53 : decode cX9_findShakyTicks 53 = .ok (.iload_n 2, 1) := by decide +kernel
theorem dX9_findShakyTicks_54 : decode cX9_findShakyTicks 54 = .ok (.ireturn, 1) := by decide +kernel
theorem dX9_fitsWithFlips_0 : decode cX9_fitsWithFlips 0 = .ok (.aload_n 0, 1) := by decide +kernel
theorem dX9_fitsWithFlips_1 : decode cX9_fitsWithFlips 1 = .ok (.getfield 23, 3) := by decide +kernel
theorem dX9_fitsWithFlips_4 : decode cX9_fitsWithFlips 4 = .ok (.aload_n 0, 1) := by decide +kernel
theorem dX9_fitsWithFlips_5 : decode cX9_fitsWithFlips 5 = .ok (.getfield 19, 3) := by decide +kernel
theorem dX9_fitsWithFlips_8 : decode cX9_fitsWithFlips 8 = .ok (.invokevirtual 230, 3) := by decide +kernel
theorem dX9_fitsWithFlips_11 : decode cX9_fitsWithFlips 11 = .ok (.iconst 0, 1) := by decide +kernel
theorem dX9_fitsWithFlips_12 : decode cX9_fitsWithFlips 12 = .ok (.istore_n 3, 1) := by decide +kernel
theorem dX9_fitsWithFlips_13 : decode cX9_fitsWithFlips 13 = .ok (.iload_n 3, 1) := by decide +kernel
theorem dX9_fitsWithFlips_14 : decode cX9_fitsWithFlips 14 = .ok (.iload_n 2, 1) := by decide +kernel
theorem dX9_fitsWithFlips_15 : decode cX9_fitsWithFlips 15 = .ok (.if_icmp .ge 37, 3) := by decide +kernel
theorem dX9_fitsWithFlips_18 : decode cX9_fitsWithFlips 18 = .ok (.iload_n 3, 1) := by decide +kernel
theorem dX9_fitsWithFlips_19 : decode cX9_fitsWithFlips 19 = .ok (.bipush 6, 2) := by decide +kernel
theorem dX9_fitsWithFlips_21 : decode cX9_fitsWithFlips 21 = .ok (.if_icmp .ge 31, 3) := by decide +kernel
theorem dX9_fitsWithFlips_24 : decode cX9_fitsWithFlips 24 = .ok (.iload_n 1, 1) := by decide +kernel
theorem dX9_fitsWithFlips_25 : decode cX9_fitsWithFlips 25 = .ok (.iload_n 3, 1) := by decide +kernel
theorem dX9_fitsWithFlips_26 : decode cX9_fitsWithFlips 26 = .ok (.ishr, 1) := by decide +kernel
theorem dX9_fitsWithFlips_27 : decode cX9_fitsWithFlips 27 = .ok (.iconst 1, 1) := by decide +kernel
theorem dX9_fitsWithFlips_28 : decode cX9_fitsWithFlips 28 = .ok (.iand, 1) := by decide +kernel
theorem dX9_fitsWithFlips_29 : decode cX9_fitsWithFlips 29 = .ok (.iconst 1, 1) := by decide +kernel
theorem dX9_fitsWithFlips_30 : decode cX9_fitsWithFlips 30 = .ok (.if_icmp .ne 16, 3) := by decide +kernel
theorem dX9_fitsWithFlips_33 : decode cX9_fitsWithFlips 33 = .ok (.aload_n 0, 1) := by decide +kernel
theorem dX9_fitsWithFlips_34 : decode cX9_fitsWithFlips 34 = .ok (.getfield 23, 3) := by decide +kernel
theorem dX9_fitsWithFlips_37 : decode cX9_fitsWithFlips 37 = .ok (.aload_n 0, 1) := by decide +kernel
theorem dX9_fitsWithFlips_38 : decode cX9_fitsWithFlips 38 = .ok (.getfield 68, 3) := by decide +kernel
theorem dX9_fitsWithFlips_41 : decode cX9_fitsWithFlips 41 = .ok (.iload_n 3, 1) := by decide +kernel
theorem dX9_fitsWithFlips_42 : decode cX9_fitsWithFlips 42 = .ok (.iaload, 1) := by decide +kernel
theorem dX9_fitsWithFlips_43 : decode cX9_fitsWithFlips 43 = .ok (.invokevirtual 186, 3) := by decide +kernel
theorem dX9_fitsWithFlips_46 : decode cX9_fitsWithFlips 46 = .ok (.iinc 3 1, 3) := by decide +kernel
theorem dX9_fitsWithFlips_49 : decode cX9_fitsWithFlips 49 = .ok (.goto (-36), 3) := by decide +kernel
theorem dX9_fitsWithFlips_52 : decode cX9_fitsWithFlips 52 = .ok (.aload_n 0, 1) := by decide +kernel
theorem dX9_fitsWithFlips_53 : decode cX9_fitsWithFlips 53 = .ok (.getfield 57, 3) := by decide +kernel
theorem dX9_fitsWithFlips_56 : decode cX9_fitsWithFlips 56 = .ok (.aload_n 0, 1) := by decide +kernel
theorem dX9_fitsWithFlips_57 : decode cX9_fitsWithFlips 57 = .ok (.getfield 23, 3) := by decide +kernel
theorem dX9_fitsWithFlips_60 : decode cX9_fitsWithFlips 60 = .ok (.invokevirtual 107, 3) := by decide +kernel
theorem dX9_fitsWithFlips_63 : decode cX9_fitsWithFlips 63 = .ok (.aload_n 0, 1) := by decide +kernel
theorem dX9_fitsWithFlips_64 : decode cX9_fitsWithFlips 64 = .ok (.getfield 57, 3) := by decide +kernel
theorem dX9_fitsWithFlips_67 : decode cX9_fitsWithFlips 67 = .ok (.aload_n 0, 1) := by decide +kernel
theorem dX9_fitsWithFlips_68 : decode cX9_fitsWithFlips 68 = .ok (.getfield 50, 3) := by decide +kernel
theorem dX9_fitsWithFlips_71 : decode cX9_fitsWithFlips 71 = .ok (.invokevirtual 202, 3) := by decide +kernel
theorem dX9_fitsWithFlips_74 : decode cX9_fitsWithFlips 74 = .ok (.aload_n 0, 1) := by decide +kernel
theorem dX9_fitsWithFlips_75 : decode cX9_fitsWithFlips 75 = .ok (.getfield 57, 3) := by decide +kernel
theorem dX9_fitsWithFlips_78 : decode cX9_fitsWithFlips 78 = .ok (.invokevirtual 209, 3) := by decide +kernel
theorem dX9_fitsWithFlips_81 : decode cX9_fitsWithFlips 81 = .ok (.ireturn, 1) := by decide +kernel
theorem dX9_weightOf_0 : decode cX9_weightOf 0 = .ok (.iconst 1, 1) := by decide +kernel
theorem dX9_weightOf_1 : decode cX9_weightOf 1 = .ok (.istore_n 3, 1) := by decide +kernel
theorem dX9_weightOf_2 : decode cX9_weightOf 2 = .ok (.iconst 0, 1) := by decide +kernel
theorem dX9_weightOf_3 : decode cX9_weightOf 3 = .ok (.istore 4, 2) := by decide +kernel
theorem dX9_weightOf_5 : decode cX9_weightOf 5 = .ok (.iload 4, 2) := by decide +kernel
theorem dX9_weightOf_7 : decode cX9_weightOf 7 = .ok (.iload_n 1, 1) := by decide +kernel
theorem dX9_weightOf_8 : decode cX9_weightOf 8 = .ok (.if_icmp .ge 30, 3) := by decide +kernel
theorem dX9_weightOf_11 : decode cX9_weightOf 11 = .ok (.iload_n 3, 1) := by decide +kernel
theorem dX9_weightOf_12 : decode cX9_weightOf 12 = .ok (.iload_n 0, 1) := by decide +kernel
theorem dX9_weightOf_13 : decode cX9_weightOf 13 = .ok (.iload 4, 2) := by decide +kernel
theorem dX9_weightOf_15 : decode cX9_weightOf 15 = .ok (.ishr, 1) := by decide +kernel
theorem dX9_weightOf_16 : decode cX9_weightOf 16 = .ok (.iconst 1, 1) := by decide +kernel
theorem dX9_weightOf_17 : decode cX9_weightOf 17 = .ok (.iand, 1) := by decide +kernel
theorem dX9_weightOf_18 : decode cX9_weightOf 18 = .ok (.iconst 1, 1) := by decide +kernel
theorem dX9_weightOf_19 : decode cX9_weightOf 19 = .ok (.if_icmp .ne 7, 3) := by decide +kernel
theorem dX9_weightOf_22 : decode cX9_weightOf 22 = .ok (.iload_n 2, 1) := by decide +kernel
theorem dX9_weightOf_23 : decode cX9_weightOf 23 = .ok (.goto 7, 3) := by decide +kernel
theorem dX9_weightOf_26 : decode cX9_weightOf 26 = .ok (.bipush 10, 2) := by decide +kernel
theorem dX9_weightOf_28 : decode cX9_weightOf 28 = .ok (.iload_n 2, 1) := by decide +kernel
theorem dX9_weightOf_29 : decode cX9_weightOf 29 = .ok (.isub, 1) := by decide +kernel
theorem dX9_weightOf_30 : decode cX9_weightOf 30 = .ok (.imul, 1) := by decide +kernel
theorem dX9_weightOf_31 : decode cX9_weightOf 31 = .ok (.istore_n 3, 1) := by decide +kernel
theorem dX9_weightOf_32 : decode cX9_weightOf 32 = .ok (.iinc 4 1, 3) := by decide +kernel
theorem dX9_weightOf_35 : decode cX9_weightOf 35 = .ok (.goto (-30), 3) := by decide +kernel
theorem dX9_weightOf_38 : decode cX9_weightOf 38 = .ok (.iload_n 3, 1) := by decide +kernel
theorem dX9_weightOf_39 : decode cX9_weightOf 39 = .ok (.ireturn, 1) := by decide +kernel
theorem dX9_doDrawn_0 : decode cX9_doDrawn 0 = .ok (.aload_n 0, 1) := by decide +kernel
theorem dX9_doDrawn_1 : decode cX9_doDrawn 1 = .ok (.getfield 23, 3) := by decide +kernel
theorem dX9_doDrawn_4 : decode cX9_doDrawn 4 = .ok (.aload_n 0, 1) := by decide +kernel
theorem dX9_doDrawn_5 : decode cX9_doDrawn 5 = .ok (.getfield 50, 3) := by decide +kernel
theorem dX9_doDrawn_8 : decode cX9_doDrawn 8 = .ok (.invokevirtual 179, 3) := by decide +kernel
theorem dX9_doDrawn_11 : decode cX9_doDrawn 11 = .ok (.invokevirtual 166, 3) := by decide +kernel
theorem dX9_doDrawn_14 : decode cX9_doDrawn 14 = .ok (.ifCond .eq 19, 3) := by decide +kernel
theorem dX9_doDrawn_17 : decode cX9_doDrawn 17 = .ok (.aload_n 0, 1) := by decide +kernel
theorem dX9_doDrawn_18 : decode cX9_doDrawn 18 = .ok (.getfield 23, 3) := by decide +kernel
theorem dX9_doDrawn_21 : decode cX9_doDrawn 21 = .ok (.aload_n 0, 1) := by decide +kernel
theorem dX9_doDrawn_22 : decode cX9_doDrawn 22 = .ok (.getfield 50, 3) := by decide +kernel
theorem dX9_doDrawn_25 : decode cX9_doDrawn 25 = .ok (.iload_n 1, 1) := by decide +kernel
theorem dX9_doDrawn_26 : decode cX9_doDrawn 26 = .ok (.sipush 255, 3) := by decide +kernel
theorem dX9_doDrawn_29 : decode cX9_doDrawn 29 = .ok (.iand, 1) := by decide +kernel
theorem dX9_doDrawn_30 : decode cX9_doDrawn 30 = .ok (.invokevirtual 182, 3) := by decide +kernel
theorem dX9_doDrawn_33 : decode cX9_doDrawn 33 = .ok (.iload_n 1, 1) := by decide +kernel
theorem dX9_doDrawn_34 : decode cX9_doDrawn 34 = .ok (.sipush 256, 3) := by decide +kernel
theorem dX9_doDrawn_37 : decode cX9_doDrawn 37 = .ok (.idiv, 1) := by decide +kernel
theorem dX9_doDrawn_38 : decode cX9_doDrawn 38 = .ok (.sipush 400, 3) := by decide +kernel
theorem dX9_doDrawn_41 : decode cX9_doDrawn 41 = .ok (.irem, 1) := by decide +kernel
theorem dX9_doDrawn_42 : decode cX9_doDrawn 42 = .ok (.istore_n 2, 1) := by decide +kernel
theorem dX9_doDrawn_43 : decode cX9_doDrawn 43 = .ok (.aload_n 0, 1) := by decide +kernel
theorem dX9_doDrawn_44 : decode cX9_doDrawn 44 = .ok (.getfield 23, 3) := by decide +kernel
theorem dX9_doDrawn_47 : decode cX9_doDrawn 47 = .ok (.iload_n 2, 1) := by decide +kernel
theorem dX9_doDrawn_48 : decode cX9_doDrawn 48 = .ok (.invokevirtual 150, 3) := by decide +kernel
theorem dX9_doDrawn_51 : decode cX9_doDrawn 51 = .ok (.ifCond .eq 21, 3) := by decide +kernel
theorem dX9_doDrawn_54 : decode cX9_doDrawn 54 = .ok (.iload_n 1, 1) := by decide +kernel
theorem dX9_doDrawn_55 : decode cX9_doDrawn 55 = .ok (.ldc_w 296, 3) := by decide +kernel
theorem dX9_doDrawn_58 : decode cX9_doDrawn 58 = .ok (.idiv, 1) := by decide +kernel
theorem dX9_doDrawn_59 : decode cX9_doDrawn 59 = .ok (.iconst 4, 1) := by decide +kernel
theorem dX9_doDrawn_60 : decode cX9_doDrawn 60 = .ok (.irem, 1) := by decide +kernel
theorem dX9_doDrawn_61 : decode cX9_doDrawn 61 = .ok (.ifCond .ne 11, 3) := by decide +kernel
theorem dX9_doDrawn_64 : decode cX9_doDrawn 64 = .ok (.aload_n 0, 1) := by decide +kernel
theorem dX9_doDrawn_65 : decode cX9_doDrawn 65 = .ok (.getfield 23, 3) := by decide +kernel
theorem dX9_doDrawn_68 : decode cX9_doDrawn 68 = .ok (.iload_n 2, 1) := by decide +kernel
theorem dX9_doDrawn_69 : decode cX9_doDrawn 69 = .ok (.invokevirtual 186, 3) := by decide +kernel
theorem dX9_doDrawn_72 : decode cX9_doDrawn 72 = .ok (.return_, 1) := by decide +kernel
theorem dX9_inLeastTerms_0 : decode cX9_inLeastTerms 0 = .ok (.iload_n 2, 1) := by decide +kernel
theorem dX9_inLeastTerms_1 : decode cX9_inLeastTerms 1 = .ok (.ifCond .eq 7, 3) := by decide +kernel
theorem dX9_inLeastTerms_4 : decode cX9_inLeastTerms 4 = .ok (.iload_n 0, 1) := by decide +kernel
theorem dX9_inLeastTerms_5 : decode cX9_inLeastTerms 5 = .ok (.goto 4, 3) := by decide +kernel
theorem dX9_inLeastTerms_8 : decode cX9_inLeastTerms 8 = .ok (.iload_n 1, 1) := by decide +kernel
theorem dX9_inLeastTerms_9 : decode cX9_inLeastTerms 9 = .ok (.istore_n 3, 1) := by decide +kernel
theorem dX9_inLeastTerms_10 : decode cX9_inLeastTerms 10 = .ok (.iload_n 0, 1) := by decide +kernel
theorem dX9_inLeastTerms_11 : decode cX9_inLeastTerms 11 = .ok (.iload_n 1, 1) := by decide +kernel
theorem dX9_inLeastTerms_12 : decode cX9_inLeastTerms 12 = .ok (.invokestatic 297, 3) := by decide +kernel
theorem dX9_inLeastTerms_15 : decode cX9_inLeastTerms 15 = .ok (.istore 4, 2) := by decide +kernel
theorem dX9_inLeastTerms_17 : decode cX9_inLeastTerms 17 = .ok (.iload 4, 2) := by decide +kernel
theorem dX9_inLeastTerms_19 : decode cX9_inLeastTerms 19 = .ok (.ifCond .le 10, 3) := by decide +kernel
theorem dX9_inLeastTerms_22 : decode cX9_inLeastTerms 22 = .ok (.iload_n 3, 1) := by decide +kernel
theorem dX9_inLeastTerms_23 : decode cX9_inLeastTerms 23 = .ok (.iload 4, 2) := by decide +kernel
theorem dX9_inLeastTerms_25 : decode cX9_inLeastTerms 25 = .ok (.idiv, 1) := by decide +kernel
theorem dX9_inLeastTerms_26 : decode cX9_inLeastTerms 26 = .ok (.goto 4, 3) := by decide +kernel
theorem dX9_inLeastTerms_29 : decode cX9_inLeastTerms 29 = .ok (.iload_n 3, 1) := by decide +kernel
theorem dX9_inLeastTerms_30 : decode cX9_inLeastTerms 30 = .ok (.ireturn, 1) := by decide +kernel
theorem dX9_greatestCommonDivisor_0 : decode cX9_greatestCommonDivisor 0 = .ok (.iload_n 0, 1) := by decide +kernel
theorem dX9_greatestCommonDivisor_1 : decode cX9_greatestCommonDivisor 1 = .ok (.istore_n 2, 1) := by decide +kernel
theorem dX9_greatestCommonDivisor_2 : decode cX9_greatestCommonDivisor 2 = .ok (.iload_n 1, 1) := by decide +kernel
theorem dX9_greatestCommonDivisor_3 : decode cX9_greatestCommonDivisor 3 = .ok (.istore_n 3, 1) := by decide +kernel
theorem dX9_greatestCommonDivisor_4 : decode cX9_greatestCommonDivisor 4 = .ok (.iconst 0, 1) := by decide +kernel
theorem dX9_greatestCommonDivisor_5 : decode cX9_greatestCommonDivisor 5 = .ok (.istore 4, 2) := by decide +kernel
theorem dX9_greatestCommonDivisor_7 : decode cX9_greatestCommonDivisor 7 = .ok (.iload 4, 2) := by decide +kernel
theorem dX9_greatestCommonDivisor_9 : decode cX9_greatestCommonDivisor 9 = .ok (.bipush 64, 2) := by decide +kernel
theorem dX9_greatestCommonDivisor_11 : decode cX9_greatestCommonDivisor 11 = .ok (.if_icmp .ge 23, 3) := by decide +kernel
theorem dX9_greatestCommonDivisor_14 : decode cX9_greatestCommonDivisor 14 = .ok (.iload_n 3, 1) := by decide +kernel
theorem dX9_greatestCommonDivisor_15 : decode cX9_greatestCommonDivisor 15 = .ok (.ifCond .eq 19, 3) := by decide +kernel
theorem dX9_greatestCommonDivisor_18 : decode cX9_greatestCommonDivisor 18 = .ok (.iload_n 2, 1) := by decide +kernel
theorem dX9_greatestCommonDivisor_19 : decode cX9_greatestCommonDivisor 19 = .ok (.iload_n 3, 1) := by decide +kernel
theorem dX9_greatestCommonDivisor_20 : decode cX9_greatestCommonDivisor 20 = .ok (.irem, 1) := by decide +kernel
theorem dX9_greatestCommonDivisor_21 : decode cX9_greatestCommonDivisor 21 = .ok (.istore 5, 2) := by decide +kernel
theorem dX9_greatestCommonDivisor_23 : decode cX9_greatestCommonDivisor 23 = .ok (.iload_n 3, 1) := by decide +kernel
theorem dX9_greatestCommonDivisor_24 : decode cX9_greatestCommonDivisor 24 = .ok (.istore_n 2, 1) := by decide +kernel
theorem dX9_greatestCommonDivisor_25 : decode cX9_greatestCommonDivisor 25 = .ok (.iload 5, 2) := by decide +kernel
theorem dX9_greatestCommonDivisor_27 : decode cX9_greatestCommonDivisor 27 = .ok (.istore_n 3, 1) := by decide +kernel
theorem dX9_greatestCommonDivisor_28 : decode cX9_greatestCommonDivisor 28 = .ok (.iinc 4 1, 3) := by decide +kernel
theorem dX9_greatestCommonDivisor_31 : decode cX9_greatestCommonDivisor 31 = .ok (.goto (-24), 3) := by decide +kernel
theorem dX9_greatestCommonDivisor_34 : decode cX9_greatestCommonDivisor 34 = .ok (.iload_n 2, 1) := by decide +kernel
theorem dX9_greatestCommonDivisor_35 : decode cX9_greatestCommonDivisor 35 = .ok (.ireturn, 1) := by decide +kernel
