theorem dX0_init_0 : decode cX0_init 0 = .ok (.aload_n 0, 1) := by decide +kernel
theorem dX0_init_1 : decode cX0_init 1 = .ok (.invokespecial 3, 3) := by decide +kernel
theorem dX0_init_4 : decode cX0_init 4 = .ok (.aload_n 0, 1) := by decide +kernel
theorem dX0_init_5 : decode cX0_init 5 = .ok (.bipush 14, 2) := by decide +kernel
theorem dX0_init_7 : decode cX0_init 7 = .ok (.newarray .int, 2) := by decide +kernel
theorem dX0_init_9 : decode cX0_init 9 = .ok (.putfield 9, 3) := by decide +kernel
theorem dX0_init_12 : decode cX0_init 12 = .ok (.aload_n 0, 1) := by decide +kernel
theorem dX0_init_13 : decode cX0_init 13 = .ok (.bipush 14, 2) := by decide +kernel
theorem dX0_init_15 : decode cX0_init 15 = .ok (.newarray .int, 2) := by decide +kernel
theorem dX0_init_17 : decode cX0_init 17 = .ok (.putfield 15, 3) := by decide +kernel
theorem dX0_init_20 : decode cX0_init 20 = .ok (.aload_n 0, 1) := by decide +kernel
theorem dX0_init_21 : decode cX0_init 21 = .ok (.bipush 84, 2) := by decide +kernel
theorem dX0_init_23 : decode cX0_init 23 = .ok (.newarray .long, 2) := by decide +kernel
theorem dX0_init_25 : decode cX0_init 25 = .ok (.putfield 18, 3) := by decide +kernel
theorem dX0_init_28 : decode cX0_init 28 = .ok (.aload_n 0, 1) := by decide +kernel
theorem dX0_init_29 : decode cX0_init 29 = .ok (.iconst 0, 1) := by decide +kernel
theorem dX0_init_30 : decode cX0_init 30 = .ok (.putfield 22, 3) := by decide +kernel
theorem dX0_init_33 : decode cX0_init 33 = .ok (.aload_n 0, 1) := by decide +kernel
theorem dX0_init_34 : decode cX0_init 34 = .ok (.iconst 0, 1) := by decide +kernel
theorem dX0_init_35 : decode cX0_init 35 = .ok (.putfield 26, 3) := by decide +kernel
theorem dX0_init_38 : decode cX0_init 38 = .ok (.return_, 1) := by decide +kernel
theorem dX0_clear_0 : decode cX0_clear 0 = .ok (.aload_n 0, 1) := by decide +kernel
theorem dX0_clear_1 : decode cX0_clear 1 = .ok (.iconst 0, 1) := by decide +kernel
theorem dX0_clear_2 : decode cX0_clear 2 = .ok (.putfield 26, 3) := by decide +kernel
theorem dX0_clear_5 : decode cX0_clear 5 = .ok (.return_, 1) := by decide +kernel
theorem dX0_noteGrown_0 : decode cX0_noteGrown 0 = .ok (.aload_n 0, 1) := by decide +kernel
theorem dX0_noteGrown_1 : decode cX0_noteGrown 1 = .ok (.iconst 0, 1) := by decide +kernel
theorem dX0_noteGrown_2 : decode cX0_noteGrown 2 = .ok (.iload_n 1, 1) := by decide +kernel
theorem dX0_noteGrown_3 : decode cX0_noteGrown 3 = .ok (.invokevirtual 29, 3) := by decide +kernel
theorem dX0_noteGrown_6 : decode cX0_noteGrown 6 = .ok (.pop, 1) := by decide +kernel
theorem dX0_noteGrown_7 : decode cX0_noteGrown 7 = .ok (.return_, 1) := by decide +kernel
theorem dX0_noteFlipped_0 : decode cX0_noteFlipped 0 = .ok (.aload_n 0, 1) := by decide +kernel
theorem dX0_noteFlipped_1 : decode cX0_noteFlipped 1 = .ok (.iconst 1, 1) := by decide +kernel
theorem dX0_noteFlipped_2 : decode cX0_noteFlipped 2 = .ok (.iload_n 1, 1) := by decide +kernel
theorem dX0_noteFlipped_3 : decode cX0_noteFlipped 3 = .ok (.invokevirtual 29, 3) := by decide +kernel
theorem dX0_noteFlipped_6 : decode cX0_noteFlipped 6 = .ok (.pop, 1) := by decide +kernel
theorem dX0_noteFlipped_7 : decode cX0_noteFlipped 7 = .ok (.return_, 1) := by decide +kernel
theorem dX0_noteCut_0 : decode cX0_noteCut 0 = .ok (.bipush 6, 2) := by decide +kernel
theorem dX0_noteCut_2 : decode cX0_noteCut 2 = .ok (.aload_n 0, 1) := by decide +kernel
theorem dX0_noteCut_3 : decode cX0_noteCut 3 = .ok (.iconst 2, 1) := by decide +kernel
theorem dX0_noteCut_4 : decode cX0_noteCut 4 = .ok (.iload_n 2, 1) := by decide +kernel
theorem dX0_noteCut_5 : decode cX0_noteCut 5 = .ok (.invokevirtual 29, 3) := by decide +kernel
theorem dX0_noteCut_8 : decode cX0_noteCut 8 = .ok (.imul, 1) := by decide +kernel
theorem dX0_noteCut_9 : decode cX0_noteCut 9 = .ok (.istore_n 3, 1) := by decide +kernel
theorem dX0_noteCut_10 : decode cX0_noteCut 10 = .ok (.iconst 0, 1) := by decide +kernel
theorem dX0_noteCut_11 : decode cX0_noteCut 11 = .ok (.istore 4, 2) := by decide +kernel
theorem dX0_noteCut_13 : decode cX0_noteCut 13 = .ok (.iload 4, 2) := by decide +kernel
theorem dX0_noteCut_15 : decode cX0_noteCut 15 = .ok (.bipush 6, 2) := by decide +kernel
theorem dX0_noteCut_17 : decode cX0_noteCut 17 = .ok (.if_icmp .ge 19, 3) := by decide +kernel
theorem dX0_noteCut_20 : decode cX0_noteCut 20 = .ok (.aload_n 0, 1) := by decide +kernel
theorem dX0_noteCut_21 : decode cX0_noteCut 21 = .ok (.getfield 18, 3) := by decide +kernel
theorem dX0_noteCut_24 : decode cX0_noteCut 24 = .ok (.iload_n 3, 1) := by decide +kernel
theorem dX0_noteCut_25 : decode cX0_noteCut 25 = .ok (.iload 4, 2) := by decide +kernel
theorem dX0_noteCut_27 : decode cX0_noteCut 27 = .ok (.iadd, 1) := by decide +kernel
theorem dX0_noteCut_28 : decode cX0_noteCut 28 = .ok (.lconst 0, 1) := by decide +kernel
theorem dX0_noteCut_29 : decode cX0_noteCut 29 = .ok (.lastore, 1) := by decide +kernel
theorem dX0_noteCut_30 : decode cX0_noteCut 30 = .ok (.iinc 4 1, 3) := by decide +kernel
theorem dX0_noteCut_33 : decode cX0_noteCut 33 = .ok (.goto (-20), 3) := by decide +kernel
theorem dX0_noteCut_36 : decode cX0_noteCut 36 = .ok (.iconst 0, 1) := by decide +kernel
theorem dX0_noteCut_37 : decode cX0_noteCut 37 = .ok (.istore 4, 2) := by decide +kernel
theorem dX0_noteCut_39 : decode cX0_noteCut 39 = .ok (.iload 4, 2) := by decide +kernel
theorem dX0_noteCut_41 : decode cX0_noteCut 41 = .ok (.iload_n 2, 1) := by decide +kernel
theorem dX0_noteCut_42 : decode cX0_noteCut 42 = .ok (.if_icmp .ge 56, 3) := by decide +kernel
theorem dX0_noteCut_45 : decode cX0_noteCut 45 = .ok (.iload 4, 2) := by decide +kernel
theorem dX0_noteCut_47 : decode cX0_noteCut 47 = .ok (.sipush 360, 3) := by decide +kernel
theorem dX0_noteCut_50 : decode cX0_noteCut 50 = .ok (.if_icmp .ge 48, 3) := by decide +kernel
theorem dX0_noteCut_53 : decode cX0_noteCut 53 = .ok (.aload_n 1, 1) := by decide +kernel
theorem dX0_noteCut_54 : decode cX0_noteCut 54 = .ok (.aload_n 1, 1) := by decide +kernel
theorem dX0_noteCut_55 : decode cX0_noteCut 55 = .ok (.getfield 33, 3) := by decide +kernel
theorem dX0_noteCut_58 : decode cX0_noteCut 58 = .ok (.iload_n 2, 1) := by decide +kernel
theorem dX0_noteCut_59 : decode cX0_noteCut 59 = .ok (.isub, 1) := by decide +kernel
theorem dX0_noteCut_60 : decode cX0_noteCut 60 = .ok (.iload 4, 2) := by decide +kernel
theorem dX0_noteCut_62 : decode cX0_noteCut 62 = .ok (.iadd, 1) := by decide +kernel
theorem dX0_noteCut_63 : decode cX0_noteCut 63 = .ok (.invokevirtual 38, 3) := by decide +kernel
theorem dX0_noteCut_66 : decode cX0_noteCut 66 = .ok (.iconst 1, 1) := by decide +kernel
theorem dX0_noteCut_67 : decode cX0_noteCut 67 = .ok (.if_icmp .ne 25, 3) := by decide +kernel
theorem dX0_noteCut_70 : decode cX0_noteCut 70 = .ok (.aload_n 0, 1) := by decide +kernel
theorem dX0_noteCut_71 : decode cX0_noteCut 71 = .ok (.getfield 18, 3) := by decide +kernel
theorem dX0_noteCut_74 : decode cX0_noteCut 74 = .ok (.iload_n 3, 1) := by decide +kernel
theorem dX0_noteCut_75 : decode cX0_noteCut 75 = .ok (.iload 4, 2) := by decide +kernel
theorem dX0_noteCut_77 : decode cX0_noteCut 77 = .ok (.bipush 64, 2) := by decide +kernel
theorem dX0_noteCut_79 : decode cX0_noteCut 79 = .ok (.idiv, 1) := by decide +kernel
theorem dX0_noteCut_80 : decode cX0_noteCut 80 = .ok (.iadd, 1) := by decide +kernel
theorem dX0_noteCut_81 : decode cX0_noteCut 81 = .ok (.dup2, 1) := by decide +kernel
theorem dX0_noteCut_82 : decode cX0_noteCut 82 = .ok (.laload, 1) := by decide +kernel
theorem dX0_noteCut_83 : decode cX0_noteCut 83 = .ok (.lconst 1, 1) := by decide +kernel
theorem dX0_noteCut_84 : decode cX0_noteCut 84 = .ok (.iload 4, 2) := by decide +kernel
theorem dX0_noteCut_86 : decode cX0_noteCut 86 = .ok (.bipush 64, 2) := by decide +kernel
theorem dX0_noteCut_88 : decode cX0_noteCut 88 = .ok (.irem, 1) := by decide +kernel
theorem dX0_noteCut_89 : decode cX0_noteCut 89 = .ok (.lshl, 1) := by decide +kernel
theorem dX0_noteCut_90 : decode cX0_noteCut 90 = .ok (.lor, 1) := by decide +kernel
theorem dX0_noteCut_91 : decode cX0_noteCut 91 = .ok (.lastore, 1) := by decide +kernel
theorem dX0_noteCut_92 : decode cX0_noteCut 92 = .ok (.iinc 4 1, 3) := by decide +kernel
theorem dX0_noteCut_95 : decode cX0_noteCut 95 = .ok (.goto (-56), 3) := by decide +kernel
theorem dX0_noteCut_98 : decode cX0_noteCut 98 = .ok (.return_, 1) := by decide +kernel
theorem dX0_takeBackLast_0 : decode cX0_takeBackLast 0 = .ok (.aload_n 0, 1) := by decide +kernel
theorem dX0_takeBackLast_1 : decode cX0_takeBackLast 1 = .ok (.getfield 26, 3) := by decide +kernel
theorem dX0_takeBackLast_4 : decode cX0_takeBackLast 4 = .ok (.ifCond .ne 4, 3) := by decide +kernel
theorem dX0_takeBackLast_7 : decode cX0_takeBackLast 7 = .ok (.return_, 1) := by decide +kernel
theorem dX0_takeBackLast_8 : decode cX0_takeBackLast 8 = .ok (.aload_n 0, 1) := by decide +kernel
theorem dX0_takeBackLast_9 : decode cX0_takeBackLast 9 = .ok (.dup, 1) := by decide +kernel
theorem dX0_takeBackLast_10 : decode cX0_takeBackLast 10 = .ok (.getfield 26, 3) := by decide +kernel
theorem dX0_takeBackLast_13 : decode cX0_takeBackLast 13 = .ok (.iconst 1, 1) := by decide +kernel
theorem dX0_takeBackLast_14 : decode cX0_takeBackLast 14 = .ok (.isub, 1) := by decide +kernel
theorem dX0_takeBackLast_15 : decode cX0_takeBackLast 15 = .ok (.putfield 26, 3) := by decide +kernel
theorem dX0_takeBackLast_18 : decode cX0_takeBackLast 18 = .ok (.aload_n 0, 1) := by decide +kernel
theorem dX0_takeBackLast_19 : decode cX0_takeBackLast 19 = .ok (.getfield 22, 3) := by decide +kernel
theorem dX0_takeBackLast_22 : decode cX0_takeBackLast 22 = .ok (.aload_n 0, 1) := by decide +kernel
theorem dX0_takeBackLast_23 : decode cX0_takeBackLast 23 = .ok (.getfield 26, 3) := by decide +kernel
theorem dX0_takeBackLast_26 : decode cX0_takeBackLast 26 = .ok (.iadd, 1) := by decide +kernel
theorem dX0_takeBackLast_27 : decode cX0_takeBackLast 27 = .ok (.bipush 14, 2) := by decide +kernel
theorem dX0_takeBackLast_29 : decode cX0_takeBackLast 29 = .ok (.irem, 1) := by decide +kernel
theorem dX0_takeBackLast_30 : decode cX0_takeBackLast 30 = .ok (.istore_n 2, 1) := by decide +kernel
theorem dX0_takeBackLast_31 : decode cX0_takeBackLast 31 = .ok (.aload_n 0, 1) := by decide +kernel
theorem dX0_takeBackLast_32 : decode cX0_takeBackLast 32 = .ok (.getfield 9, 3) := by decide +kernel
theorem dX0_takeBackLast_35 : decode cX0_takeBackLast 35 = .ok (.iload_n 2, 1) := by decide +kernel
theorem dX0_takeBackLast_36 : decode cX0_takeBackLast 36 = .ok (.iaload, 1) := by decide +kernel
theorem dX0_takeBackLast_37 : decode cX0_takeBackLast 37 = .ok (.ifCond .ne 16, 3) := by decide +kernel
theorem dX0_takeBackLast_40 : decode cX0_takeBackLast 40 = .ok (.aload_n 1, 1) := by decide +kernel
theorem dX0_takeBackLast_41 : decode cX0_takeBackLast 41 = .ok (.aload_n 0, 1) := by decide +kernel
theorem dX0_takeBackLast_42 : decode cX0_takeBackLast 42 = .ok (.getfield 15, 3) := by decide +kernel
theorem dX0_takeBackLast_45 : decode cX0_takeBackLast 45 = .ok (.iload_n 2, 1) := by decide +kernel
theorem dX0_takeBackLast_46 : decode cX0_takeBackLast 46 = .ok (.iaload, 1) := by decide +kernel
theorem dX0_takeBackLast_47 : decode cX0_takeBackLast 47 = .ok (.invokevirtual 42, 3) := by decide +kernel
theorem dX0_takeBackLast_50 : decode cX0_takeBackLast 50 = .ok (.goto 32, 3) := by decide +kernel
theorem dX0_takeBackLast_53 : decode cX0_takeBackLast 53 = .ok (.aload_n 0, 1) := by decide +kernel
theorem dX0_takeBackLast_54 : decode cX0_takeBackLast 54 = .ok (.getfield 9, 3) := by decide +kernel
theorem dX0_takeBackLast_57 : decode cX0_takeBackLast 57 = .ok (.iload_n 2, 1) := by decide +kernel
theorem dX0_takeBackLast_58 : decode cX0_takeBackLast 58 = .ok (.iaload, 1) := by decide +kernel
theorem dX0_takeBackLast_59 : decode cX0_takeBackLast 59 = .ok (.iconst 1, 1) := by decide +kernel
theorem dX0_takeBackLast_60 : decode cX0_takeBackLast 60 = .ok (.if_icmp .ne 16, 3) := by decide +kernel
theorem dX0_takeBackLast_63 : decode cX0_takeBackLast 63 = .ok (.aload_n 1, 1) := by decide +kernel
theorem dX0_takeBackLast_64 : decode cX0_takeBackLast 64 = .ok (.aload_n 0, 1) := by decide +kernel
theorem dX0_takeBackLast_65 : decode cX0_takeBackLast 65 = .ok (.getfield 15, 3) := by decide +kernel
theorem dX0_takeBackLast_68 : decode cX0_takeBackLast 68 = .ok (.iload_n 2, 1) := by decide +kernel
theorem dX0_takeBackLast_69 : decode cX0_takeBackLast 69 = .ok (.iaload, 1) := by decide +kernel
theorem dX0_takeBackLast_70 : decode cX0_takeBackLast 70 = .ok (.invokevirtual 46, 3) := by decide +kernel
theorem dX0_takeBackLast_73 : decode cX0_takeBackLast 73 = .ok (.goto 9, 3) := by decide +kernel
theorem dX0_takeBackLast_76 : decode cX0_takeBackLast 76 = .ok (.aload_n 0, 1) := by decide +kernel
theorem dX0_takeBackLast_77 : decode cX0_takeBackLast 77 = .ok (.aload_n 1, 1) := by decide +kernel
theorem dX0_takeBackLast_78 : decode cX0_takeBackLast 78 = .ok (.iload_n 2, 1) := by decide +kernel
theorem dX0_takeBackLast_79 : decode cX0_takeBackLast 79 = .ok (.invokevirtual 49, 3) := by decide +kernel
theorem dX0_takeBackLast_82 : decode cX0_takeBackLast 82 = .ok (.return_, 1) := by decide +kernel
theorem dX0_bringBack_0 : decode cX0_bringBack 0 = .ok (.iconst 0, 1) := by decide +kernel
theorem dX0_bringBack_1 : decode cX0_bringBack 1 = .ok (.istore_n 3, 1) := by decide +kernel
theorem dX0_bringBack_2 : decode cX0_bringBack 2 = .ok (.iload_n 3, 1) := by decide +kernel
theorem dX0_bringBack_3 : decode cX0_bringBack 3 = .ok (.aload_n 0, 1) := by decide +kernel
theorem dX0_bringBack_4 : decode cX0_bringBack 4 = .ok (.getfield 15, 3) := by decide +kernel
theorem dX0_bringBack_7 : decode cX0_bringBack 7 = .ok (.iload_n 2, 1) := by decide +kernel
theorem dX0_bringBack_8 : decode cX0_bringBack 8 = .ok (.iaload, 1) := by decide +kernel
theorem dX0_bringBack_9 : decode cX0_bringBack 9 = .ok (.if_icmp .ge 47, 3) := by decide +kernel
theorem dX0_bringBack_12 : decode cX0_bringBack 12 = .ok (.iload_n 3, 1) := by decide +kernel
theorem dX0_bringBack_13 : decode cX0_bringBack 13 = .ok (.sipush 360, 3) := by decide +kernel
theorem dX0_bringBack_16 : decode cX0_bringBack 16 = .ok (.if_icmp .ge 40, 3) := by decide +kernel
theorem dX0_bringBack_19 : decode cX0_bringBack 19 = .ok (.aload_n 0, 1) := by decide +kernel
theorem dX0_bringBack_20 : decode cX0_bringBack 20 = .ok (.getfield 18, 3) := by decide +kernel
theorem dX0_bringBack_23 : decode cX0_bringBack 23 = .ok (.bipush 6, 2) := by decide +kernel
theorem dX0_bringBack_25 : decode cX0_bringBack 25 = .ok (.iload_n 2, 1) := by decide +kernel
theorem dX0_bringBack_26 : decode cX0_bringBack 26 = .ok (.imul, 1) := by decide +kernel
theorem dX0_bringBack_27 : decode cX0_bringBack 27 = .ok (.iload_n 3, 1) := by decide +kernel
theorem dX0_bringBack_28 : decode cX0_bringBack 28 = .ok (.bipush 64, 2) := by decide +kernel
theorem dX0_bringBack_30 : decode cX0_bringBack 30 = .ok (.idiv, 1) := by decide +kernel
theorem dX0_bringBack_31 : decode cX0_bringBack 31 = .ok (.iadd, 1) := by decide +kernel
theorem dX0_bringBack_32 : decode cX0_bringBack 32 = .ok (.laload, 1) := by decide +kernel
theorem dX0_bringBack_33 : decode cX0_bringBack 33 = .ok (.lstore 4, 2) := by decide +kernel
theorem dX0_bringBack_35 : decode cX0_bringBack 35 = .ok (.aload_n 1, 1) := by decide +kernel
theorem dX0_bringBack_36 : decode cX0_bringBack 36 = .ok (.lload 4, 2) := by decide +kernel
theorem dX0_bringBack_38 : decode cX0_bringBack 38 = .ok (.iload_n 3, 1) := by decide +kernel
theorem dX0_bringBack_39 : decode cX0_bringBack 39 = .ok (.bipush 64, 2) := by decide +kernel
theorem dX0_bringBack_41 : decode cX0_bringBack 41 = .ok (.irem, 1) := by decide +kernel
theorem dX0_bringBack_42 : decode cX0_bringBack 42 = .ok (.lushr, 1) := by decide +kernel
theorem dX0_bringBack_43 : decode cX0_bringBack 43 = .ok (.lconst 1, 1) := by decide +kernel
theorem dX0_bringBack_44 : decode cX0_bringBack 44 = .ok (.land, 1) := by decide +kernel
theorem dX0_bringBack_45 : decode cX0_bringBack 45 = .ok (.l2i, 1) := by decide +kernel
theorem dX0_bringBack_46 : decode cX0_bringBack 46 = .ok (.iconst 1, 1) := by decide +kernel
theorem dX0_bringBack_47 : decode cX0_bringBack 47 = .ok (.invokevirtual 53, 3) := by decide +kernel
theorem dX0_bringBack_50 : decode cX0_bringBack 50 = .ok (.iinc 3 1, 3) := by decide +kernel
theorem dX0_bringBack_53 : decode cX0_bringBack 53 = .ok (.goto (-51), 3) := by decide +kernel
theorem dX0_bringBack_56 : decode cX0_bringBack 56 = .ok (.return_, 1) := by decide +kernel
theorem dX0_note_0 : decode cX0_note 0 = .ok (.aload_n 0, 1) := by decide +kernel
theorem dX0_note_1 : decode cX0_note 1 = .ok (.getfield 26, 3) := by decide +kernel
theorem dX0_note_4 : decode cX0_note 4 = .ok (.bipush 14, 2) := by decide +kernel
theorem dX0_note_6 : decode cX0_note 6 = .ok (.if_icmp .ne 26, 3) := by decide +kernel
theorem dX0_note_9 : decode cX0_note 9 = .ok (.aload_n 0, 1) := by decide +kernel
theorem dX0_note_10 : decode cX0_note 10 = .ok (.aload_n 0, 1) := by decide +kernel
theorem dX0_note_11 : decode cX0_note 11 = .ok (.getfield 22, 3) := by decide +kernel
theorem dX0_note_14 : decode cX0_note 14 = .ok (.iconst 1, 1) := by decide +kernel
theorem dX0_note_15 : decode cX0_note 15 = .ok (.iadd, 1) := by decide +kernel
theorem dX0_note_16 : decode cX0_note 16 = .ok (.bipush 14, 2) := by decide +kernel
theorem dX0_note_18 : decode cX0_note 18 = .ok (.irem, 1) := by decide +kernel
theorem dX0_note_19 : decode cX0_note 19 = .ok (.putfield 22, 3) := by decide +kernel
theorem dX0_note_22 : decode cX0_note 22 = .ok (.aload_n 0, 1) := by decide +kernel
theorem dX0_note_23 : decode cX0_note 23 = .ok (.dup, 1) := by decide +kernel
theorem dX0_note_24 : decode cX0_note 24 = .ok (.getfield 26, 3) := by decide +kernel
theorem dX0_note_27 : decode cX0_note 27 = .ok (.iconst 1, 1) := by decide +kernel
theorem dX0_note_28 : decode cX0_note 28 = .ok (.isub, 1) := by decide +kernel
theorem dX0_note_29 : decode cX0_note 29 = .ok (.putfield 26, 3) := by decide +kernel
theorem dX0_note_32 : decode cX0_note 32 = .ok (.aload_n 0, 1) := by decide +kernel
theorem dX0_note_33 : decode cX0_note 33 = .ok (.getfield 22, 3) := by decide +kernel
theorem dX0_note_36 : decode cX0_note 36 = .ok (.aload_n 0, 1) := by decide +kernel
theorem dX0_note_37 : decode cX0_note 37 = .ok (.getfield 26, 3) := by decide +kernel
theorem dX0_note_40 : decode cX0_note 40 = .ok (.iadd, 1) := by decide +kernel
theorem dX0_note_41 : decode cX0_note 41 = .ok (.bipush 14, 2) := by decide +kernel
theorem dX0_note_43 : decode cX0_note 43 = .ok (.irem, 1) := by decide +kernel
theorem dX0_note_44 : decode cX0_note 44 = .ok (.istore_n 3, 1) := by decide +kernel
theorem dX0_note_45 : decode cX0_note 45 = .ok (.aload_n 0, 1) := by decide +kernel
theorem dX0_note_46 : decode cX0_note 46 = .ok (.getfield 9, 3) := by decide +kernel
theorem dX0_note_49 : decode cX0_note 49 = .ok (.iload_n 3, 1) := by decide +kernel
theorem dX0_note_50 : decode cX0_note 50 = .ok (.iload_n 1, 1) := by decide +kernel
theorem dX0_note_51 : decode cX0_note 51 = .ok (.iastore, 1) := by decide +kernel
theorem dX0_note_52 : decode cX0_note 52 = .ok (.aload_n 0, 1) := by decide +kernel
theorem dX0_note_53 : decode cX0_note 53 = .ok (.getfield 15, 3) := by decide +kernel
theorem dX0_note_56 : decode cX0_note 56 = .ok (.iload_n 3, 1) := by decide +kernel
theorem dX0_note_57 : decode cX0_note 57 = .ok (.iload_n 2, 1) := by decide +kernel
theorem dX0_note_58 : decode cX0_note 58 = .ok (.iastore, 1) := by decide +kernel
theorem dX0_note_59 : decode cX0_note 59 = .ok (.aload_n 0, 1) := by decide +kernel
theorem dX0_note_60 : decode cX0_note 60 = .ok (.dup, 1) := by decide +kernel
theorem dX0_note_61 : decode cX0_note 61 = .ok (.getfield 26, 3) := by decide +kernel
theorem dX0_note_64 : decode cX0_note 64 = .ok (.iconst 1, 1) := by decide +kernel
theorem dX0_note_65 : decode cX0_note 65 = .ok (.iadd, 1) := by decide +kernel
theorem dX0_note_66 : decode cX0_note 66 = .ok (.putfield 26, 3) := by decide +kernel
theorem dX0_note_69 : decode cX0_note 69 = .ok (.iload_n 3, 1) := by decide +kernel
theorem dX0_note_70 : decode cX0_note 70 = .ok (.ireturn, 1) := by decide +kernel
theorem dX1_init_0 : decode cX1_init 0 = .ok (.aload_n 0, 1) := by decide +kernel
theorem dX1_init_1 : decode cX1_init 1 = .ok (.invokespecial 3, 3) := by decide +kernel
theorem dX1_init_4 : decode cX1_init 4 = .ok (.aload_n 0, 1) := by decide +kernel
theorem dX1_init_5 : decode cX1_init 5 = .ok (.iconst 1, 1) := by decide +kernel
theorem dX1_init_6 : decode cX1_init 6 = .ok (.putfield 9, 3) := by decide +kernel
theorem dX1_init_9 : decode cX1_init 9 = .ok (.aload_n 0, 1) := by decide +kernel
theorem dX1_init_10 : decode cX1_init 10 = .ok (.iconst 5, 1) := by decide +kernel
theorem dX1_init_11 : decode cX1_init 11 = .ok (.putfield 15, 3) := by decide +kernel
theorem dX1_init_14 : decode cX1_init 14 = .ok (.aload_n 0, 1) := by decide +kernel
theorem dX1_init_15 : decode cX1_init 15 = .ok (.iconst 0, 1) := by decide +kernel
theorem dX1_init_16 : decode cX1_init 16 = .ok (.putfield 18, 3) := by decide +kernel
theorem dX1_init_19 : decode cX1_init 19 = .ok (.aload_n 0, 1) := by decide +kernel
theorem dX1_init_20 : decode cX1_init 20 = .ok (.iconst 1, 1) := by decide +kernel
theorem dX1_init_21 : decode cX1_init 21 = .ok (.putfield 21, 3) := by decide +kernel
theorem dX1_init_24 : decode cX1_init 24 = .ok (.aload_n 0, 1) := by decide +kernel
theorem dX1_init_25 : decode cX1_init 25 = .ok (.iconst 1, 1) := by decide +kernel
theorem dX1_init_26 : decode cX1_init 26 = .ok (.putfield 24, 3) := by decide +kernel
theorem dX1_init_29 : decode cX1_init 29 = .ok (.return_, 1) := by decide +kernel
theorem dX1_isToldBy_0 : decode cX1_isToldBy 0 = .ok (.iload_n 1, 1) := by decide +kernel
theorem dX1_isToldBy_1 : decode cX1_isToldBy 1 = .ok (.sipush 10000, 3) := by decide +kernel
theorem dX1_isToldBy_4 : decode cX1_isToldBy 4 = .ok (.idiv, 1) := by decide +kernel
theorem dX1_isToldBy_5 : decode cX1_isToldBy 5 = .ok (.istore_n 2, 1) := by decide +kernel
theorem dX1_isToldBy_6 : decode cX1_isToldBy 6 = .ok (.iload_n 1, 1) := by decide +kernel
theorem dX1_isToldBy_7 : decode cX1_isToldBy 7 = .ok (.sipush 1000, 3) := by decide +kernel
theorem dX1_isToldBy_10 : decode cX1_isToldBy 10 = .ok (.idiv, 1) := by decide +kernel
theorem dX1_isToldBy_11 : decode cX1_isToldBy 11 = .ok (.bipush 10, 2) := by decide +kernel
theorem dX1_isToldBy_13 : decode cX1_isToldBy 13 = .ok (.irem, 1) := by decide +kernel
theorem dX1_isToldBy_14 : decode cX1_isToldBy 14 = .ok (.istore_n 3, 1) := by decide +kernel
theorem dX1_isToldBy_15 : decode cX1_isToldBy 15 = .ok (.iload_n 1, 1) := by decide +kernel
theorem dX1_isToldBy_16 : decode cX1_isToldBy 16 = .ok (.bipush 100, 2) := by decide +kernel
theorem dX1_isToldBy_18 : decode cX1_isToldBy 18 = .ok (.idiv, 1) := by decide +kernel
theorem dX1_isToldBy_19 : decode cX1_isToldBy 19 = .ok (.bipush 10, 2) := by decide +kernel
theorem dX1_isToldBy_21 : decode cX1_isToldBy 21 = .ok (.irem, 1) := by decide +kernel
theorem dX1_isToldBy_22 : decode cX1_isToldBy 22 = .ok (.istore 4, 2) := by decide +kernel
theorem dX1_isToldBy_24 : decode cX1_isToldBy 24 = .ok (.iload_n 1, 1) := by decide +kernel
theorem dX1_isToldBy_25 : decode cX1_isToldBy 25 = .ok (.bipush 10, 2) := by decide +kernel
theorem dX1_isToldBy_27 : decode cX1_isToldBy 27 = .ok (.idiv, 1) := by decide +kernel
theorem dX1_isToldBy_28 : decode cX1_isToldBy 28 = .ok (.bipush 10, 2) := by decide +kernel
theorem dX1_isToldBy_30 : decode cX1_isToldBy 30 = .ok (.irem, 1) := by decide +kernel
theorem dX1_isToldBy_31 : decode cX1_isToldBy 31 = .ok (.istore 5, 2) := by decide +kernel
theorem dX1_isToldBy_33 : decode cX1_isToldBy 33 = .ok (.iload_n 1, 1) := by decide +kernel
theorem dX1_isToldBy_34 : decode cX1_isToldBy 34 = .ok (.bipush 10, 2) := by decide +kernel
theorem dX1_isToldBy_36 : decode cX1_isToldBy 36 = .ok (.irem, 1) := by decide +kernel
theorem dX1_isToldBy_37 : decode cX1_isToldBy 37 = .ok (.istore 6, 2) := by decide +kernel
theorem dX1_isToldBy_39 : decode cX1_isToldBy 39 = .ok (.iload_n 1, 1) := by decide +kernel
theorem dX1_isToldBy_40 : decode cX1_isToldBy 40 = .ok (.ifCond .lt 25, 3) := by decide +kernel
theorem dX1_isToldBy_43 : decode cX1_isToldBy 43 = .ok (.iload_n 2, 1) := by decide +kernel
theorem dX1_isToldBy_44 : decode cX1_isToldBy 44 = .ok (.iconst 1, 1) := by decide +kernel
theorem dX1_isToldBy_45 : decode cX1_isToldBy 45 = .ok (.if_icmp .lt 20, 3) := by decide +kernel
theorem dX1_isToldBy_48 : decode cX1_isToldBy 48 = .ok (.iload_n 2, 1) := by decide +kernel
theorem dX1_isToldBy_49 : decode cX1_isToldBy 49 = .ok (.bipush 16, 2) := by decide +kernel
theorem dX1_isToldBy_51 : decode cX1_isToldBy 51 = .ok (.if_icmp .gt 14, 3) := by decide +kernel
theorem dX1_isToldBy_54 : decode cX1_isToldBy 54 = .ok (.iload_n 3, 1) := by decide +kernel
theorem dX1_isToldBy_55 : decode cX1_isToldBy 55 = .ok (.iconst 5, 1) := by decide +kernel
theorem dX1_isToldBy_56 : decode cX1_isToldBy 56 = .ok (.if_icmp .lt 9, 3) := by decide +kernel
theorem dX1_isToldBy_59 : decode cX1_isToldBy 59 = .ok (.iload_n 3, 1) := by decide +kernel
theorem dX1_isToldBy_60 : decode cX1_isToldBy 60 = .ok (.bipush 8, 2) := by decide +kernel
theorem dX1_isToldBy_62 : decode cX1_isToldBy 62 = .ok (.if_icmp .le 5, 3) := by decide +kernel
theorem dX1_isToldBy_65 : decode cX1_isToldBy 65 = .ok (.iconst 0, 1) := by decide +kernel
theorem dX1_isToldBy_66 : decode cX1_isToldBy 66 = .ok (.ireturn, 1) := by decide +kernel
theorem dX1_isToldBy_67 : decode cX1_isToldBy 67 = .ok (.iload 4, 2) := by decide +kernel
theorem dX1_isToldBy_69 : decode cX1_isToldBy 69 = .ok (.iconst 2, 1) := by decide +kernel
theorem dX1_isToldBy_70 : decode cX1_isToldBy 70 = .ok (.if_icmp .gt 21, 3) := by decide +kernel
theorem dX1_isToldBy_73 : decode cX1_isToldBy 73 = .ok (.iload 5, 2) := by decide +kernel
theorem dX1_isToldBy_75 : decode cX1_isToldBy 75 = .ok (.iconst 1, 1) := by decide +kernel
theorem dX1_isToldBy_76 : decode cX1_isToldBy 76 = .ok (.if_icmp .lt 15, 3) := by decide +kernel
theorem dX1_isToldBy_79 : decode cX1_isToldBy 79 = .ok (.iload 5, 2) := by decide +kernel
theorem dX1_isToldBy_81 : decode cX1_isToldBy 81 = .ok (.iconst 2, 1) := by decide +kernel
theorem dX1_isToldBy_82 : decode cX1_isToldBy 82 = .ok (.if_icmp .gt 9, 3) := by decide +kernel
theorem dX1_isToldBy_85 : decode cX1_isToldBy 85 = .ok (.iload 6, 2) := by decide +kernel
theorem dX1_isToldBy_87 : decode cX1_isToldBy 87 = .ok (.iconst 1, 1) := by decide +kernel
theorem dX1_isToldBy_88 : decode cX1_isToldBy 88 = .ok (.if_icmp .le 5, 3) := by decide +kernel
theorem dX1_isToldBy_91 : decode cX1_isToldBy 91 = .ok (.iconst 0, 1) := by decide +kernel
theorem dX1_isToldBy_92 : decode cX1_isToldBy 92 = .ok (.ireturn, 1) := by decide +kernel
theorem dX1_isToldBy_93 : decode cX1_isToldBy 93 = .ok (.aload_n 0, 1) := by decide +kernel
theorem dX1_isToldBy_94 : decode cX1_isToldBy 94 = .ok (.iload_n 2, 1) := by decide +kernel
theorem dX1_isToldBy_95 : decode cX1_isToldBy 95 = .ok (.putfield 9, 3) := by decide +kernel
theorem dX1_isToldBy_98 : decode cX1_isToldBy 98 = .ok (.aload_n 0, 1) := by decide +kernel
theorem dX1_isToldBy_99 : decode cX1_isToldBy 99 = .ok (.iload_n 3, 1) := by decide +kernel
theorem dX1_isToldBy_100 : decode cX1_isToldBy 100 = .ok (.putfield 15, 3) := by decide +kernel
theorem dX1_isToldBy_103 : decode cX1_isToldBy 103 = .ok (.aload_n 0, 1) := by decide +kernel
theorem dX1_isToldBy_104 : decode cX1_isToldBy 104 = .ok (.iload 4, 2) := by decide +kernel
theorem dX1_isToldBy_106 : decode cX1_isToldBy 106 = .ok (.putfield 18, 3) := by decide +kernel
theorem dX1_isToldBy_109 : decode cX1_isToldBy 109 = .ok (.aload_n 0, 1) := by decide +kernel
theorem dX1_isToldBy_110 : decode cX1_isToldBy 110 = .ok (.iload 5, 2) := by decide +kernel
theorem dX1_isToldBy_112 : decode cX1_isToldBy 112 = .ok (.putfield 21, 3) := by decide +kernel
theorem dX1_isToldBy_115 : decode cX1_isToldBy 115 = .ok (.aload_n 0, 1) := by decide +kernel
theorem dX1_isToldBy_116 : decode cX1_isToldBy 116 = .ok (.iconst 1, 1) := by decide +kernel
theorem dX1_isToldBy_117 : decode cX1_isToldBy 117 = .ok (.iload 6, 2) := by decide +kernel
theorem dX1_isToldBy_119 : decode cX1_isToldBy 119 = .ok (.isub, 1) := by decide +kernel
theorem dX1_isToldBy_120 : decode cX1_isToldBy 120 = .ok (.putfield 24, 3) := by decide +kernel
theorem dX1_isToldBy_123 : decode cX1_isToldBy 123 = .ok (.iconst 1, 1) := by decide +kernel
theorem dX1_isToldBy_124 : decode cX1_isToldBy 124 = .ok (.ireturn, 1) := by decide +kernel
theorem dX1_become_0 : decode cX1_become 0 = .ok (.aload_n 0, 1) := by decide +kernel
theorem dX1_become_1 : decode cX1_become 1 = .ok (.iload_n 1, 1) := by decide +kernel
theorem dX1_become_2 : decode cX1_become 2 = .ok (.bipush 48, 2) := by decide +kernel
theorem dX1_become_4 : decode cX1_become 4 = .ok (.idiv, 1) := by decide +kernel
theorem dX1_become_5 : decode cX1_become 5 = .ok (.iconst 1, 1) := by decide +kernel
theorem dX1_become_6 : decode cX1_become 6 = .ok (.iadd, 1) := by decide +kernel
theorem dX1_become_7 : decode cX1_become 7 = .ok (.putfield 9, 3) := by decide +kernel
theorem dX1_become_10 : decode cX1_become 10 = .ok (.aload_n 0, 1) := by decide +kernel
theorem dX1_become_11 : decode cX1_become 11 = .ok (.iload_n 1, 1) := by decide +kernel
theorem dX1_become_12 : decode cX1_become 12 = .ok (.bipush 12, 2) := by decide +kernel
theorem dX1_become_14 : decode cX1_become 14 = .ok (.idiv, 1) := by decide +kernel
theorem dX1_become_15 : decode cX1_become 15 = .ok (.iconst 4, 1) := by decide +kernel
theorem dX1_become_16 : decode cX1_become 16 = .ok (.irem, 1) := by decide +kernel
theorem dX1_become_17 : decode cX1_become 17 = .ok (.iconst 5, 1) := by decide +kernel
theorem dX1_become_18 : decode cX1_become 18 = .ok (.iadd, 1) := by decide +kernel
theorem dX1_become_19 : decode cX1_become 19 = .ok (.putfield 15, 3) := by decide +kernel
theorem dX1_become_22 : decode cX1_become 22 = .ok (.aload_n 0, 1) := by decide +kernel
theorem dX1_become_23 : decode cX1_become 23 = .ok (.iload_n 1, 1) := by decide +kernel
theorem dX1_become_24 : decode cX1_become 24 = .ok (.iconst 4, 1) := by decide +kernel
theorem dX1_become_25 : decode cX1_become 25 = .ok (.idiv, 1) := by decide +kernel
theorem dX1_become_26 : decode cX1_become 26 = .ok (.iconst 3, 1) := by decide +kernel
theorem dX1_become_27 : decode cX1_become 27 = .ok (.irem, 1) := by decide +kernel
theorem dX1_become_28 : decode cX1_become 28 = .ok (.putfield 18, 3) := by decide +kernel
theorem dX1_become_31 : decode cX1_become 31 = .ok (.aload_n 0, 1) := by decide +kernel
theorem dX1_become_32 : decode cX1_become 32 = .ok (.iload_n 1, 1) := by decide +kernel
theorem dX1_become_33 : decode cX1_become 33 = .ok (.iconst 2, 1) := by decide +kernel
theorem dX1_become_34 : decode cX1_become 34 = .ok (.idiv, 1) := by decide +kernel
theorem dX1_become_35 : decode cX1_become 35 = .ok (.iconst 2, 1) := by decide +kernel
theorem dX1_become_36 : decode cX1_become 36 = .ok (.irem, 1) := by decide +kernel
theorem dX1_become_37 : decode cX1_become 37 = .ok (.iconst 1, 1) := by decide +kernel
theorem dX1_become_38 : decode cX1_become 38 = .ok (.iadd, 1) := by decide +kernel
theorem dX1_become_39 : decode cX1_become 39 = .ok (.putfield 21, 3) := by decide +kernel
theorem dX1_become_42 : decode cX1_become 42 = .ok (.aload_n 0, 1) := by decide +kernel
theorem dX1_become_43 : decode cX1_become 43 = .ok (.iconst 1, 1) := by decide +kernel
theorem dX1_become_44 : decode cX1_become 44 = .ok (.iload_n 1, 1) := by decide +kernel
theorem dX1_become_45 : decode cX1_become 45 = .ok (.iconst 2, 1) := by decide +kernel
theorem dX1_become_46 : decode cX1_become 46 = .ok (.irem, 1) := by decide +kernel
theorem dX1_become_47 : decode cX1_become 47 = .ok (.isub, 1) := by decide +kernel
theorem dX1_become_48 : decode cX1_become 48 = .ok (.putfield 24, 3) := by decide +kernel
theorem dX1_become_51 : decode cX1_become 51 = .ok (.return_, 1) := by decide +kernel
theorem dX1_code_0 : decode cX1_code 0 = .ok (.aload_n 0, 1) := by decide +kernel
theorem dX1_code_1 : decode cX1_code 1 = .ok (.getfield 9, 3) := by decide +kernel
theorem dX1_code_4 : decode cX1_code 4 = .ok (.sipush 10000, 3) := by decide +kernel
theorem dX1_code_7 : decode cX1_code 7 = .ok (.imul, 1) := by decide +kernel
theorem dX1_code_8 : decode cX1_code 8 = .ok (.aload_n 0, 1) := by decide +kernel
theorem dX1_code_9 : decode cX1_code 9 = .ok (.getfield 15, 3) := by decide +kernel
theorem dX1_code_12 : decode cX1_code 12 = .ok (.sipush 1000, 3) := by decide +kernel
theorem dX1_code_15 : decode cX1_code 15 = .ok (.imul, 1) := by decide +kernel
theorem dX1_code_16 : decode cX1_code 16 = .ok (.iadd, 1) := by decide +kernel
theorem dX1_code_17 : decode cX1_code 17 = .ok (.aload_n 0, 1) := by decide +kernel
theorem dX1_code_18 : decode cX1_code 18 = .ok (.getfield 18, 3) := by decide +kernel
theorem dX1_code_21 : decode cX1_code 21 = .ok (.bipush 100, 2) := by decide +kernel
theorem dX1_code_23 : decode cX1_code 23 = .ok (.imul, 1) := by decide +kernel
theorem dX1_code_24 : decode cX1_code 24 = .ok (.iadd, 1) := by decide +kernel
theorem dX1_code_25 : decode cX1_code 25 = .ok (.aload_n 0, 1) := by decide +kernel
theorem dX1_code_26 : decode cX1_code 26 = .ok (.getfield 21, 3) := by decide +kernel
theorem dX1_code_29 : decode cX1_code 29 = .ok (.bipush 10, 2) := by decide +kernel
theorem dX1_code_31 : decode cX1_code 31 = .ok (.imul, 1) := by decide +kernel
theorem dX1_code_32 : decode cX1_code 32 = .ok (.iadd, 1) := by decide +kernel
theorem dX1_code_33 : decode cX1_code 33 = .ok (.iconst 1, 1) := by decide +kernel
theorem dX1_code_34 : decode cX1_code 34 = .ok (.iadd, 1) := by decide +kernel
theorem dX1_code_35 : decode cX1_code 35 = .ok (.aload_n 0, 1) := by decide +kernel
theorem dX1_code_36 : decode cX1_code 36 = .ok (.getfield 24, 3) := by decide +kernel
theorem dX1_code_39 : decode cX1_code 39 = .ok (.isub, 1) := by decide +kernel
theorem dX1_code_40 : decode cX1_code 40 = .ok (.ireturn, 1) := by decide +kernel
theorem dX1_bitsOfFrame_0 : decode cX1_bitsOfFrame 0 = .ok (.iconst 1, 1) := by decide +kernel
theorem dX1_bitsOfFrame_1 : decode cX1_bitsOfFrame 1 = .ok (.aload_n 0, 1) := by decide +kernel
theorem dX1_bitsOfFrame_2 : decode cX1_bitsOfFrame 2 = .ok (.getfield 15, 3) := by decide +kernel
theorem dX1_bitsOfFrame_5 : decode cX1_bitsOfFrame 5 = .ok (.iadd, 1) := by decide +kernel
theorem dX1_bitsOfFrame_6 : decode cX1_bitsOfFrame 6 = .ok (.aload_n 0, 1) := by decide +kernel
theorem dX1_bitsOfFrame_7 : decode cX1_bitsOfFrame 7 = .ok (.getfield 18, 3) := by decide +kernel
theorem dX1_bitsOfFrame_10 : decode cX1_bitsOfFrame 10 = .ok (.ifCond .ne 7, 3) := by decide +kernel
theorem dX1_bitsOfFrame_13 : decode cX1_bitsOfFrame 13 = .ok (.iconst 0, 1) := by decide +kernel
theorem dX1_bitsOfFrame_14 : decode cX1_bitsOfFrame 14 = .ok (.goto 4, 3) := by decide +kernel
theorem dX1_bitsOfFrame_17 : decode cX1_bitsOfFrame 17 = .ok (.iconst 1, 1) := by decide +kernel
theorem dX1_bitsOfFrame_18 : decode cX1_bitsOfFrame 18 = .ok (.iadd, 1) := by decide +kernel
theorem dX1_bitsOfFrame_19 : decode cX1_bitsOfFrame 19 = .ok (.aload_n 0, 1) := by decide +kernel
theorem dX1_bitsOfFrame_20 : decode cX1_bitsOfFrame 20 = .ok (.getfield 21, 3) := by decide +kernel
theorem dX1_bitsOfFrame_23 : decode cX1_bitsOfFrame 23 = .ok (.iadd, 1) := by decide +kernel
theorem dX1_bitsOfFrame_24 : decode cX1_bitsOfFrame 24 = .ok (.ireturn, 1) := by decide +kernel
theorem dX1_ticksOfLetter_0 : decode cX1_ticksOfLetter 0 = .ok (.aload_n 0, 1) := by decide +kernel
theorem dX1_ticksOfLetter_1 : decode cX1_ticksOfLetter 1 = .ok (.getfield 9, 3) := by decide +kernel
theorem dX1_ticksOfLetter_4 : decode cX1_ticksOfLetter 4 = .ok (.iconst 1, 1) := by decide +kernel
theorem dX1_ticksOfLetter_5 : decode cX1_ticksOfLetter 5 = .ok (.aload_n 0, 1) := by decide +kernel
theorem dX1_ticksOfLetter_6 : decode cX1_ticksOfLetter 6 = .ok (.invokevirtual 27, 3) := by decide +kernel
theorem dX1_ticksOfLetter_9 : decode cX1_ticksOfLetter 9 = .ok (.iadd, 1) := by decide +kernel
theorem dX1_ticksOfLetter_10 : decode cX1_ticksOfLetter 10 = .ok (.imul, 1) := by decide +kernel
theorem dX1_ticksOfLetter_11 : decode cX1_ticksOfLetter 11 = .ok (.ireturn, 1) := by decide +kernel
theorem dX1_tickOfBit_0 : decode cX1_tickOfBit 0 = .ok (.iload_n 1, 1) := by decide +kernel
theorem dX1_tickOfBit_1 : decode cX1_tickOfBit 1 = .ok (.aload_n 0, 1) := by decide +kernel
theorem dX1_tickOfBit_2 : decode cX1_tickOfBit 2 = .ok (.getfield 9, 3) := by decide +kernel
theorem dX1_tickOfBit_5 : decode cX1_tickOfBit 5 = .ok (.iload_n 2, 1) := by decide +kernel
theorem dX1_tickOfBit_6 : decode cX1_tickOfBit 6 = .ok (.imul, 1) := by decide +kernel
theorem dX1_tickOfBit_7 : decode cX1_tickOfBit 7 = .ok (.iadd, 1) := by decide +kernel
theorem dX1_tickOfBit_8 : decode cX1_tickOfBit 8 = .ok (.aload_n 0, 1) := by decide +kernel
theorem dX1_tickOfBit_9 : decode cX1_tickOfBit 9 = .ok (.getfield 9, 3) := by decide +kernel
theorem dX1_tickOfBit_12 : decode cX1_tickOfBit 12 = .ok (.iconst 2, 1) := by decide +kernel
theorem dX1_tickOfBit_13 : decode cX1_tickOfBit 13 = .ok (.idiv, 1) := by decide +kernel
theorem dX1_tickOfBit_14 : decode cX1_tickOfBit 14 = .ok (.iadd, 1) := by decide +kernel
theorem dX1_tickOfBit_15 : decode cX1_tickOfBit 15 = .ok (.ireturn, 1) := by decide +kernel
theorem dX1_levelOf_0 : decode cX1_levelOf 0 = .ok (.iload_n 1, 1) := by decide +kernel
theorem dX1_levelOf_1 : decode cX1_levelOf 1 = .ok (.iconst 1, 1) := by decide +kernel
theorem dX1_levelOf_2 : decode cX1_levelOf 2 = .ok (.if_icmp .ne 10, 3) := by decide +kernel
theorem dX1_levelOf_5 : decode cX1_levelOf 5 = .ok (.aload_n 0, 1) := by decide +kernel
theorem dX1_levelOf_6 : decode cX1_levelOf 6 = .ok (.getfield 24, 3) := by decide +kernel
theorem dX1_levelOf_9 : decode cX1_levelOf 9 = .ok (.goto 9, 3) := by decide +kernel
theorem dX1_levelOf_12 : decode cX1_levelOf 12 = .ok (.iconst 1, 1) := by decide +kernel
theorem dX1_levelOf_13 : decode cX1_levelOf 13 = .ok (.aload_n 0, 1) := by decide +kernel
theorem dX1_levelOf_14 : decode cX1_levelOf 14 = .ok (.getfield 24, 3) := by decide +kernel
theorem dX1_levelOf_17 : decode cX1_levelOf 17 = .ok (.isub, 1) := by decide +kernel
theorem dX1_levelOf_18 : decode cX1_levelOf 18 = .ok (.ireturn, 1) := by decide +kernel
theorem dX1_parityFor_0 : decode cX1_parityFor 0 = .ok (.aload_n 0, 1) := by decide +kernel
theorem dX1_parityFor_1 : decode cX1_parityFor 1 = .ok (.getfield 18, 3) := by decide +kernel
theorem dX1_parityFor_4 : decode cX1_parityFor 4 = .ok (.iconst 1, 1) := by decide +kernel
theorem dX1_parityFor_5 : decode cX1_parityFor 5 = .ok (.if_icmp .ne 9, 3) := by decide +kernel
theorem dX1_parityFor_8 : decode cX1_parityFor 8 = .ok (.iload_n 1, 1) := by decide +kernel
theorem dX1_parityFor_9 : decode cX1_parityFor 9 = .ok (.iconst 2, 1) := by decide +kernel
theorem dX1_parityFor_10 : decode cX1_parityFor 10 = .ok (.irem, 1) := by decide +kernel
theorem dX1_parityFor_11 : decode cX1_parityFor 11 = .ok (.goto 8, 3) := by decide +kernel
theorem dX1_parityFor_14 : decode cX1_parityFor 14 = .ok (.iconst 1, 1) := by decide +kernel
theorem dX1_parityFor_15 : decode cX1_parityFor 15 = .ok (.iload_n 1, 1) := by decide +kernel
theorem dX1_parityFor_16 : decode cX1_parityFor 16 = .ok (.iconst 2, 1) := by decide +kernel
theorem dX1_parityFor_17 : decode cX1_parityFor 17 = .ok (.irem, 1) := by decide +kernel
theorem dX1_parityFor_18 : decode cX1_parityFor 18 = .ok (.isub, 1) := by decide +kernel
theorem dX1_parityFor_19 : decode cX1_parityFor 19 = .ok (.ireturn, 1) := by decide +kernel
theorem dX2_init_0 : decode cX2_init 0 = .ok (.aload_n 0, 1) := by decide +kernel
theorem dX2_init_1 : decode cX2_init 1 = .ok (.invokespecial 3, 3) := by decide +kernel
theorem dX2_init_4 : decode cX2_init 4 = .ok (.aload_n 0, 1) := by decide +kernel
theorem dX2_init_5 : decode cX2_init 5 = .ok (.iconst 5, 1) := by decide +kernel
theorem dX2_init_6 : decode cX2_init 6 = .ok (.newarray .int, 2) := by decide +kernel
theorem dX2_init_8 : decode cX2_init 8 = .ok (.putfield 9, 3) := by decide +kernel
theorem dX2_init_11 : decode cX2_init 11 = .ok (.aload_n 0, 1) := by decide +kernel
theorem dX2_init_12 : decode cX2_init 12 = .ok (.iconst 5, 1) := by decide +kernel
theorem dX2_init_13 : decode cX2_init 13 = .ok (.newarray .int, 2) := by decide +kernel
theorem dX2_init_15 : decode cX2_init 15 = .ok (.putfield 15, 3) := by decide +kernel
theorem dX2_init_18 : decode cX2_init 18 = .ok (.aload_n 0, 1) := by decide +kernel
theorem dX2_init_19 : decode cX2_init 19 = .ok (.iconst 0, 1) := by decide +kernel
theorem dX2_init_20 : decode cX2_init 20 = .ok (.putfield 18, 3) := by decide +kernel
theorem dX2_init_23 : decode cX2_init 23 = .ok (.return_, 1) := by decide +kernel
theorem dX2_isFull_0 : decode cX2_isFull 0 = .ok (.aload_n 0, 1) := by decide +kernel
theorem dX2_isFull_1 : decode cX2_isFull 1 = .ok (.getfield 18, 3) := by decide +kernel
theorem dX2_isFull_4 : decode cX2_isFull 4 = .ok (.iconst 5, 1) := by decide +kernel
theorem dX2_isFull_5 : decode cX2_isFull 5 = .ok (.if_icmp .lt 7, 3) := by decide +kernel
theorem dX2_isFull_8 : decode cX2_isFull 8 = .ok (.iconst 1, 1) := by decide +kernel
theorem dX2_isFull_9 : decode cX2_isFull 9 = .ok (.goto 4, 3) := by decide +kernel
theorem dX2_isFull_12 : decode cX2_isFull 12 = .ok (.iconst 0, 1) := by decide +kernel
theorem dX2_isFull_13 : decode cX2_isFull 13 = .ok (.ireturn, 1) := by decide +kernel
theorem dX2_add_0 : decode cX2_add 0 = .ok (.aload_n 0, 1) := by decide +kernel
theorem dX2_add_1 : decode cX2_add 1 = .ok (.invokevirtual 22, 3) := by decide +kernel
theorem dX2_add_4 : decode cX2_add 4 = .ok (.ifCond .ne 33, 3) := by decide +kernel
theorem dX2_add_7 : decode cX2_add 7 = .ok (.aload_n 0, 1) := by decide +kernel
theorem dX2_add_8 : decode cX2_add 8 = .ok (.getfield 9, 3) := by decide +kernel
theorem dX2_add_11 : decode cX2_add 11 = .ok (.aload_n 0, 1) := by decide +kernel
theorem dX2_add_12 : decode cX2_add 12 = .ok (.getfield 18, 3) := by decide +kernel
theorem dX2_add_15 : decode cX2_add 15 = .ok (.iload_n 1, 1) := by decide +kernel
theorem dX2_add_16 : decode cX2_add 16 = .ok (.iastore, 1) := by decide +kernel
theorem dX2_add_17 : decode cX2_add 17 = .ok (.aload_n 0, 1) := by decide +kernel
theorem dX2_add_18 : decode cX2_add 18 = .ok (.getfield 15, 3) := by decide +kernel
theorem dX2_add_21 : decode cX2_add 21 = .ok (.aload_n 0, 1) := by decide +kernel
theorem dX2_add_22 : decode cX2_add 22 = .ok (.getfield 18, 3) := by decide +kernel
theorem dX2_add_25 : decode cX2_add 25 = .ok (.iload_n 2, 1) := by decide +kernel
theorem dX2_add_26 : decode cX2_add 26 = .ok (.iastore, 1) := by decide +kernel
theorem dX2_add_27 : decode cX2_add 27 = .ok (.aload_n 0, 1) := by decide +kernel
theorem dX2_add_28 : decode cX2_add 28 = .ok (.dup, 1) := by decide +kernel
theorem dX2_add_29 : decode cX2_add 29 = .ok (.getfield 18, 3) := by decide +kernel
theorem dX2_add_32 : decode cX2_add 32 = .ok (.iconst 1, 1) := by decide +kernel
theorem dX2_add_33 : decode cX2_add 33 = .ok (.iadd, 1) := by decide +kernel
theorem dX2_add_34 : decode cX2_add 34 = .ok (.putfield 18, 3) := by decide +kernel
theorem dX2_add_37 : decode cX2_add 37 = .ok (.return_, 1) := by decide +kernel
theorem dX2_refuters_0 : decode cX2_refuters 0 = .ok (.iconst 0, 1) := by decide +kernel
theorem dX2_refuters_1 : decode cX2_refuters 1 = .ok (.istore_n 2, 1) := by decide +kernel
theorem dX2_refuters_2 : decode cX2_refuters 2 = .ok (.iconst 0, 1) := by decide +kernel
theorem dX2_refuters_3 : decode cX2_refuters 3 = .ok (.istore_n 3, 1) := by decide +kernel
theorem dX2_refuters_4 : decode cX2_refuters 4 = .ok (.iload_n 3, 1) := by decide +kernel
theorem dX2_refuters_5 : decode cX2_refuters 5 = .ok (.aload_n 0, 1) := by decide +kernel
theorem dX2_refuters_6 : decode cX2_refuters 6 = .ok (.getfield 18, 3) := by decide +kernel
theorem dX2_refuters_9 : decode cX2_refuters 9 = .ok (.if_icmp .ge 39, 3) := by decide +kernel
theorem dX2_refuters_12 : decode cX2_refuters 12 = .ok (.iload_n 3, 1) := by decide +kernel
theorem dX2_refuters_13 : decode cX2_refuters 13 = .ok (.iconst 5, 1) := by decide +kernel
theorem dX2_refuters_14 : decode cX2_refuters 14 = .ok (.if_icmp .ge 34, 3) := by decide +kernel
theorem dX2_refuters_17 : decode cX2_refuters 17 = .ok (.aload_n 1, 1) := by decide +kernel
theorem dX2_refuters_18 : decode cX2_refuters 18 = .ok (.aload_n 0, 1) := by decide +kernel
theorem dX2_refuters_19 : decode cX2_refuters 19 = .ok (.getfield 9, 3) := by decide +kernel
theorem dX2_refuters_22 : decode cX2_refuters 22 = .ok (.iload_n 3, 1) := by decide +kernel
theorem dX2_refuters_23 : decode cX2_refuters 23 = .ok (.iaload, 1) := by decide +kernel
theorem dX2_refuters_24 : decode cX2_refuters 24 = .ok (.invokevirtual 26, 3) := by decide +kernel
theorem dX2_refuters_27 : decode cX2_refuters 27 = .ok (.aload_n 0, 1) := by decide +kernel
theorem dX2_refuters_28 : decode cX2_refuters 28 = .ok (.getfield 15, 3) := by decide +kernel
theorem dX2_refuters_31 : decode cX2_refuters 31 = .ok (.iload_n 3, 1) := by decide +kernel
theorem dX2_refuters_32 : decode cX2_refuters 32 = .ok (.iaload, 1) := by decide +kernel
theorem dX2_refuters_33 : decode cX2_refuters 33 = .ok (.if_icmp .eq 9, 3) := by decide +kernel
theorem dX2_refuters_36 : decode cX2_refuters 36 = .ok (.iload_n 2, 1) := by decide +kernel
theorem dX2_refuters_37 : decode cX2_refuters 37 = .ok (.iconst 1, 1) := by decide +kernel
theorem dX2_refuters_38 : decode cX2_refuters 38 = .ok (.iload_n 3, 1) := by decide +kernel
theorem dX2_refuters_39 : decode cX2_refuters 39 = .ok (.ishl, 1) := by decide +kernel
theorem dX2_refuters_40 : decode cX2_refuters 40 = .ok (.ior, 1) := by decide +kernel
theorem dX2_refuters_41 : decode cX2_refuters 41 = .ok (.istore_n 2, 1) := by decide +kernel
theorem dX2_refuters_42 : decode cX2_refuters 42 = .ok (.iinc 3 1, 3) := by decide +kernel
theorem dX2_refuters_45 : decode cX2_refuters 45 = .ok (.goto (-41), 3) := by decide +kernel
theorem dX2_refuters_48 : decode cX2_refuters 48 = .ok (.iload_n 2, 1) := by decide +kernel
theorem dX2_refuters_49 : decode cX2_refuters 49 = .ok (.ireturn, 1) := by decide +kernel
theorem dX3_init_0 : decode cX3_init 0 = .ok (.aload_n 0, 1) := by decide +kernel
theorem dX3_init_1 : decode cX3_init 1 = .ok (.invokespecial 3, 3) := by decide +kernel
theorem dX3_init_4 : decode cX3_init 4 = .ok (.aload_n 0, 1) := by decide +kernel
theorem dX3_init_5 : decode cX3_init 5 = .ok (.new 9, 3) := by decide +kernel
theorem dX3_init_8 : decode cX3_init 8 = .ok (.dup, 1) := by decide +kernel
theorem dX3_init_9 : decode cX3_init 9 = .ok (.invokespecial 11, 3) := by decide +kernel
theorem dX3_init_12 : decode cX3_init 12 = .ok (.putfield 12, 3) := by decide +kernel
theorem dX3_init_15 : decode cX3_init 15 = .ok (.aload_n 0, 1) := by decide +kernel
theorem dX3_init_16 : decode cX3_init 16 = .ok (.bipush 60, 2) := by decide +kernel
theorem dX3_init_18 : decode cX3_init 18 = .ok (.newarray .int, 2) := by decide +kernel
theorem dX3_init_20 : decode cX3_init 20 = .ok (.putfield 18, 3) := by decide +kernel
theorem dX3_init_23 : decode cX3_init 23 = .ok (.aload_n 0, 1) := by decide +kernel
theorem dX3_init_24 : decode cX3_init 24 = .ok (.iconst 0, 1) := by decide +kernel
theorem dX3_init_25 : decode cX3_init 25 = .ok (.putfield 22, 3) := by decide +kernel
theorem dX3_init_28 : decode cX3_init 28 = .ok (.aload_n 0, 1) := by decide +kernel
theorem dX3_init_29 : decode cX3_init 29 = .ok (.bipush (-9), 2) := by decide +kernel
theorem dX3_init_31 : decode cX3_init 31 = .ok (.putfield 26, 3) := by decide +kernel
theorem dX3_init_34 : decode cX3_init 34 = .ok (.aload_n 0, 1) := by decide +kernel
theorem dX3_init_35 : decode cX3_init 35 = .ok (.iconst 0, 1) := by decide +kernel
theorem dX3_init_36 : decode cX3_init 36 = .ok (.putfield 29, 3) := by decide +kernel
theorem dX3_init_39 : decode cX3_init 39 = .ok (.aload_n 0, 1) := by decide +kernel
theorem dX3_init_40 : decode cX3_init 40 = .ok (.iconst 0, 1) := by decide +kernel
theorem dX3_init_41 : decode cX3_init 41 = .ok (.putfield 32, 3) := by decide +kernel
theorem dX3_init_44 : decode cX3_init 44 = .ok (.aload_n 0, 1) := by decide +kernel
theorem dX3_init_45 : decode cX3_init 45 = .ok (.iconst 0, 1) := by decide +kernel
theorem dX3_init_46 : decode cX3_init 46 = .ok (.putfield 35, 3) := by decide +kernel
theorem dX3_init_49 : decode cX3_init 49 = .ok (.aload_n 0, 1) := by decide +kernel
theorem dX3_init_50 : decode cX3_init 50 = .ok (.bipush (-9), 2) := by decide +kernel
theorem dX3_init_52 : decode cX3_init 52 = .ok (.putfield 38, 3) := by decide +kernel
theorem dX3_init_55 : decode cX3_init 55 = .ok (.return_, 1) := by decide +kernel
theorem dX3_rank_0 : decode cX3_rank 0 = .ok (.aload_n 0, 1) := by decide +kernel
theorem dX3_rank_1 : decode cX3_rank 1 = .ok (.iconst 0, 1) := by decide +kernel
theorem dX3_rank_2 : decode cX3_rank 2 = .ok (.putfield 22, 3) := by decide +kernel
theorem dX3_rank_5 : decode cX3_rank 5 = .ok (.aload_n 0, 1) := by decide +kernel
theorem dX3_rank_6 : decode cX3_rank 6 = .ok (.bipush (-9), 2) := by decide +kernel
theorem dX3_rank_8 : decode cX3_rank 8 = .ok (.putfield 26, 3) := by decide +kernel
theorem dX3_rank_11 : decode cX3_rank 11 = .ok (.aload_n 0, 1) := by decide +kernel
theorem dX3_rank_12 : decode cX3_rank 12 = .ok (.iconst 0, 1) := by decide +kernel
theorem dX3_rank_13 : decode cX3_rank 13 = .ok (.putfield 29, 3) := by decide +kernel
theorem dX3_rank_16 : decode cX3_rank 16 = .ok (.aload_n 0, 1) := by decide +kernel
theorem dX3_rank_17 : decode cX3_rank 17 = .ok (.iconst 0, 1) := by decide +kernel
theorem dX3_rank_18 : decode cX3_rank 18 = .ok (.putfield 32, 3) := by decide +kernel
theorem dX3_rank_21 : decode cX3_rank 21 = .ok (.aload_n 2, 1) := by decide +kernel
theorem dX3_rank_22 : decode cX3_rank 22 = .ok (.aload_n 1, 1) := by decide +kernel
theorem dX3_rank_23 : decode cX3_rank 23 = .ok (.invokevirtual 41, 3) := by decide +kernel
theorem dX3_rank_26 : decode cX3_rank 26 = .ok (.iconst 0, 1) := by decide +kernel
theorem dX3_rank_27 : decode cX3_rank 27 = .ok (.istore_n 3, 1) := by decide +kernel
theorem dX3_rank_28 : decode cX3_rank 28 = .ok (.iload_n 3, 1) := by decide +kernel
theorem dX3_rank_29 : decode cX3_rank 29 = .ok (.sipush 768, 3) := by decide +kernel
theorem dX3_rank_32 : decode cX3_rank 32 = .ok (.if_icmp .ge 55, 3) := by decide +kernel
theorem dX3_rank_35 : decode cX3_rank 35 = .ok (.aload_n 0, 1) := by decide +kernel
theorem dX3_rank_36 : decode cX3_rank 36 = .ok (.getfield 12, 3) := by decide +kernel
theorem dX3_rank_39 : decode cX3_rank 39 = .ok (.iload_n 3, 1) := by decide +kernel
theorem dX3_rank_40 : decode cX3_rank 40 = .ok (.invokevirtual 47, 3) := by decide +kernel
theorem dX3_rank_43 : decode cX3_rank 43 = .ok (.aload_n 2, 1) := by decide +kernel
theorem dX3_rank_44 : decode cX3_rank 44 = .ok (.aload_n 0, 1) := by decide +kernel
theorem dX3_rank_45 : decode cX3_rank 45 = .ok (.getfield 12, 3) := by decide +kernel
theorem dX3_rank_48 : decode cX3_rank 48 = .ok (.invokevirtual 51, 3) := by decide +kernel
theorem dX3_rank_51 : decode cX3_rank 51 = .ok (.aload_n 2, 1) := by decide +kernel
theorem dX3_rank_52 : decode cX3_rank 52 = .ok (.invokevirtual 55, 3) := by decide +kernel
theorem dX3_rank_55 : decode cX3_rank 55 = .ok (.ifCond .eq 26, 3) := by decide +kernel
theorem dX3_rank_58 : decode cX3_rank 58 = .ok (.aload_n 0, 1) := by decide +kernel
theorem dX3_rank_59 : decode cX3_rank 59 = .ok (.dup, 1) := by decide +kernel
theorem dX3_rank_60 : decode cX3_rank 60 = .ok (.getfield 22, 3) := by decide +kernel
theorem dX3_rank_63 : decode cX3_rank 63 = .ok (.iconst 1, 1) := by decide +kernel
theorem dX3_rank_64 : decode cX3_rank 64 = .ok (.iadd, 1) := by decide +kernel
theorem dX3_rank_65 : decode cX3_rank 65 = .ok (.putfield 22, 3) := by decide +kernel
theorem dX3_rank_68 : decode cX3_rank 68 = .ok (.aload_n 0, 1) := by decide +kernel
theorem dX3_rank_69 : decode cX3_rank 69 = .ok (.aload_n 2, 1) := by decide +kernel
theorem dX3_rank_70 : decode cX3_rank 70 = .ok (.invokevirtual 58, 3) := by decide +kernel
theorem dX3_rank_73 : decode cX3_rank 73 = .ok (.ifCond .eq 8, 3) := by decide +kernel
theorem dX3_rank_76 : decode cX3_rank 76 = .ok (.aload_n 0, 1) := by decide +kernel
theorem dX3_rank_77 : decode cX3_rank 77 = .ok (.aload_n 2, 1) := by decide +kernel
theorem dX3_rank_78 : decode cX3_rank 78 = .ok (.invokevirtual 62, 3) := by decide +kernel
theorem dX3_rank_81 : decode cX3_rank 81 = .ok (.iinc 3 1, 3) := by decide +kernel
theorem dX3_rank_84 : decode cX3_rank 84 = .ok (.goto (-56), 3) := by decide +kernel
theorem dX3_rank_87 : decode cX3_rank 87 = .ok (.return_, 1) := by decide +kernel
theorem dX3_countAlike_0 : decode cX3_countAlike 0 = .ok (.iconst 0, 1) := by decide +kernel
theorem dX3_countAlike_1 : decode cX3_countAlike 1 = .ok (.istore_n 2, 1) := by decide +kernel
theorem dX3_countAlike_2 : decode cX3_countAlike 2 = .ok (.iconst 0, 1) := by decide +kernel
theorem dX3_countAlike_3 : decode cX3_countAlike 3 = .ok (.istore_n 3, 1) := by decide +kernel
theorem dX3_countAlike_4 : decode cX3_countAlike 4 = .ok (.iload_n 3, 1) := by decide +kernel
theorem dX3_countAlike_5 : decode cX3_countAlike 5 = .ok (.sipush 768, 3) := by decide +kernel
theorem dX3_countAlike_8 : decode cX3_countAlike 8 = .ok (.if_icmp .ge 43, 3) := by decide +kernel
theorem dX3_countAlike_11 : decode cX3_countAlike 11 = .ok (.aload_n 0, 1) := by decide +kernel
theorem dX3_countAlike_12 : decode cX3_countAlike 12 = .ok (.getfield 12, 3) := by decide +kernel
theorem dX3_countAlike_15 : decode cX3_countAlike 15 = .ok (.iload_n 3, 1) := by decide +kernel
theorem dX3_countAlike_16 : decode cX3_countAlike 16 = .ok (.invokevirtual 47, 3) := by decide +kernel
theorem dX3_countAlike_19 : decode cX3_countAlike 19 = .ok (.aload_n 1, 1) := by decide +kernel
theorem dX3_countAlike_20 : decode cX3_countAlike 20 = .ok (.aload_n 0, 1) := by decide +kernel
theorem dX3_countAlike_21 : decode cX3_countAlike 21 = .ok (.getfield 12, 3) := by decide +kernel
theorem dX3_countAlike_24 : decode cX3_countAlike 24 = .ok (.invokevirtual 51, 3) := by decide +kernel
theorem dX3_countAlike_27 : decode cX3_countAlike 27 = .ok (.aload_n 1, 1) := by decide +kernel
theorem dX3_countAlike_28 : decode cX3_countAlike 28 = .ok (.invokevirtual 55, 3) := by decide +kernel
theorem dX3_countAlike_31 : decode cX3_countAlike 31 = .ok (.ifCond .eq 14, 3) := by decide +kernel
theorem dX3_countAlike_34 : decode cX3_countAlike 34 = .ok (.aload_n 0, 1) := by decide +kernel
theorem dX3_countAlike_35 : decode cX3_countAlike 35 = .ok (.aload_n 1, 1) := by decide +kernel
theorem dX3_countAlike_36 : decode cX3_countAlike 36 = .ok (.invokevirtual 66, 3) := by decide +kernel
theorem dX3_countAlike_39 : decode cX3_countAlike 39 = .ok (.ifCond .eq 6, 3) := by decide +kernel
theorem dX3_countAlike_42 : decode cX3_countAlike 42 = .ok (.iinc 2 1, 3) := by decide +kernel
theorem dX3_countAlike_45 : decode cX3_countAlike 45 = .ok (.iinc 3 1, 3) := by decide +kernel
theorem dX3_countAlike_48 : decode cX3_countAlike 48 = .ok (.goto (-44), 3) := by decide +kernel
theorem dX3_countAlike_51 : decode cX3_countAlike 51 = .ok (.iload_n 2, 1) := by decide +kernel
theorem dX3_countAlike_52 : decode cX3_countAlike 52 = .ok (.ireturn, 1) := by decide +kernel
theorem dX3_sift_0 : decode cX3_sift 0 = .ok (.aload_n 0, 1) := by decide +kernel
theorem dX3_sift_1 : decode cX3_sift 1 = .ok (.iconst 0, 1) := by decide +kernel
theorem dX3_sift_2 : decode cX3_sift 2 = .ok (.putfield 35, 3) := by decide +kernel
theorem dX3_sift_5 : decode cX3_sift 5 = .ok (.aload_n 0, 1) := by decide +kernel
theorem dX3_sift_6 : decode cX3_sift 6 = .ok (.bipush (-9), 2) := by decide +kernel
theorem dX3_sift_8 : decode cX3_sift 8 = .ok (.putfield 38, 3) := by decide +kernel
theorem dX3_sift_11 : decode cX3_sift 11 = .ok (.aload_n 2, 1) := by decide +kernel
theorem dX3_sift_12 : decode cX3_sift 12 = .ok (.aload_n 1, 1) := by decide +kernel
theorem dX3_sift_13 : decode cX3_sift 13 = .ok (.invokevirtual 41, 3) := by decide +kernel
theorem dX3_sift_16 : decode cX3_sift 16 = .ok (.iconst 0, 1) := by decide +kernel
theorem dX3_sift_17 : decode cX3_sift 17 = .ok (.istore 4, 2) := by decide +kernel
theorem dX3_sift_19 : decode cX3_sift 19 = .ok (.iload 4, 2) := by decide +kernel
theorem dX3_sift_21 : decode cX3_sift 21 = .ok (.sipush 768, 3) := by decide +kernel
theorem dX3_sift_24 : decode cX3_sift 24 = .ok (.if_icmp .ge 78, 3) := by decide +kernel
theorem dX3_sift_27 : decode cX3_sift 27 = .ok (.aload_n 0, 1) := by decide +kernel
theorem dX3_sift_28 : decode cX3_sift 28 = .ok (.getfield 12, 3) := by decide +kernel
theorem dX3_sift_31 : decode cX3_sift 31 = .ok (.iload 4, 2) := by decide +kernel
theorem dX3_sift_33 : decode cX3_sift 33 = .ok (.invokevirtual 47, 3) := by decide +kernel
theorem dX3_sift_36 : decode cX3_sift 36 = .ok (.aload_n 2, 1) := by decide +kernel
theorem dX3_sift_37 : decode cX3_sift 37 = .ok (.aload_n 0, 1) := by decide +kernel
theorem dX3_sift_38 : decode cX3_sift 38 = .ok (.getfield 12, 3) := by decide +kernel
theorem dX3_sift_41 : decode cX3_sift 41 = .ok (.invokevirtual 51, 3) := by decide +kernel
theorem dX3_sift_44 : decode cX3_sift 44 = .ok (.aload_n 2, 1) := by decide +kernel
theorem dX3_sift_45 : decode cX3_sift 45 = .ok (.invokevirtual 55, 3) := by decide +kernel
theorem dX3_sift_48 : decode cX3_sift 48 = .ok (.ifCond .eq 48, 3) := by decide +kernel
theorem dX3_sift_51 : decode cX3_sift 51 = .ok (.aload_n 3, 1) := by decide +kernel
theorem dX3_sift_52 : decode cX3_sift 52 = .ok (.aload_n 2, 1) := by decide +kernel
theorem dX3_sift_53 : decode cX3_sift 53 = .ok (.invokevirtual 69, 3) := by decide +kernel
theorem dX3_sift_56 : decode cX3_sift 56 = .ok (.ifCond .ne 40, 3) := by decide +kernel
theorem dX3_sift_59 : decode cX3_sift 59 = .ok (.aload_n 0, 1) := by decide +kernel
theorem dX3_sift_60 : decode cX3_sift 60 = .ok (.dup, 1) := by decide +kernel
theorem dX3_sift_61 : decode cX3_sift 61 = .ok (.getfield 35, 3) := by decide +kernel
theorem dX3_sift_64 : decode cX3_sift 64 = .ok (.iconst 1, 1) := by decide +kernel
theorem dX3_sift_65 : decode cX3_sift 65 = .ok (.iadd, 1) := by decide +kernel
theorem dX3_sift_66 : decode cX3_sift 66 = .ok (.putfield 35, 3) := by decide +kernel
theorem dX3_sift_69 : decode cX3_sift 69 = .ok (.aload_n 0, 1) := by decide +kernel
theorem dX3_sift_70 : decode cX3_sift 70 = .ok (.aload_n 0, 1) := by decide +kernel
theorem dX3_sift_71 : decode cX3_sift 71 = .ok (.getfield 38, 3) := by decide +kernel
theorem dX3_sift_74 : decode cX3_sift 74 = .ok (.bipush (-9), 2) := by decide +kernel
theorem dX3_sift_76 : decode cX3_sift 76 = .ok (.if_icmp .ne 13, 3) := by decide +kernel
theorem dX3_sift_79 : decode cX3_sift 79 = .ok (.aload_n 0, 1) := by decide +kernel
theorem dX3_sift_80 : decode cX3_sift 80 = .ok (.getfield 12, 3) := by decide +kernel
theorem dX3_sift_83 : decode cX3_sift 83 = .ok (.invokevirtual 75, 3) := by decide +kernel
theorem dX3_sift_86 : decode cX3_sift 86 = .ok (.goto 7, 3) := by decide +kernel
theorem dX3_sift_89 : decode cX3_sift 89 = .ok (.aload_n 0, 1) := by decide +kernel
theorem dX3_sift_90 : decode cX3_sift 90 = .ok (.getfield 38, 3) := by decide +kernel
theorem dX3_sift_93 : decode cX3_sift 93 = .ok (.putfield 38, 3) := by decide +kernel
theorem dX3_sift_96 : decode cX3_sift 96 = .ok (.iinc 4 1, 3) := by decide +kernel
theorem dX3_sift_99 : decode cX3_sift 99 = .ok (.goto (-80), 3) := by decide +kernel
theorem dX3_sift_102 : decode cX3_sift 102 = .ok (.return_, 1) := by decide +kernel
theorem dX3_sixtiethsRuledOut_0 : decode cX3_sixtiethsRuledOut 0 = .ok (.iconst 0, 1) := by decide +kernel
theorem dX3_sixtiethsRuledOut_1 : decode cX3_sixtiethsRuledOut 1 = .ok (.istore 5, 2) := by decide +kernel
theorem dX3_sixtiethsRuledOut_3 : decode cX3_sixtiethsRuledOut 3 = .ok (.aload_n 2, 1) := by decide +kernel
theorem dX3_sixtiethsRuledOut_4 : decode cX3_sixtiethsRuledOut 4 = .ok (.aload_n 1, 1) := by decide +kernel
theorem dX3_sixtiethsRuledOut_5 : decode cX3_sixtiethsRuledOut 5 = .ok (.invokevirtual 41, 3) := by decide +kernel
theorem dX3_sixtiethsRuledOut_8 : decode cX3_sixtiethsRuledOut 8 = .ok (.iconst 0, 1) := by decide +kernel
theorem dX3_sixtiethsRuledOut_9 : decode cX3_sixtiethsRuledOut 9 = .ok (.istore 6, 2) := by decide +kernel
theorem dX3_sixtiethsRuledOut_11 : decode cX3_sixtiethsRuledOut 11 = .ok (.iload 6, 2) := by decide +kernel
theorem dX3_sixtiethsRuledOut_13 : decode cX3_sixtiethsRuledOut 13 = .ok (.sipush 768, 3) := by decide +kernel
theorem dX3_sixtiethsRuledOut_16 : decode cX3_sixtiethsRuledOut 16 = .ok (.if_icmp .ge 77, 3) := by decide +kernel
theorem dX3_sixtiethsRuledOut_19 : decode cX3_sixtiethsRuledOut 19 = .ok (.aload_n 0, 1) := by decide +kernel
theorem dX3_sixtiethsRuledOut_20 : decode cX3_sixtiethsRuledOut 20 = .ok (.getfield 12, 3) := by decide +kernel
theorem dX3_sixtiethsRuledOut_23 : decode cX3_sixtiethsRuledOut 23 = .ok (.iload 6, 2) := by decide +kernel
theorem dX3_sixtiethsRuledOut_25 : decode cX3_sixtiethsRuledOut 25 = .ok (.invokevirtual 47, 3) := by decide +kernel
theorem dX3_sixtiethsRuledOut_28 : decode cX3_sixtiethsRuledOut 28 = .ok (.aload_n 2, 1) := by decide +kernel
theorem dX3_sixtiethsRuledOut_29 : decode cX3_sixtiethsRuledOut 29 = .ok (.aload_n 0, 1) := by decide +kernel
theorem dX3_sixtiethsRuledOut_30 : decode cX3_sixtiethsRuledOut 30 = .ok (.getfield 12, 3) := by decide +kernel
theorem dX3_sixtiethsRuledOut_33 : decode cX3_sixtiethsRuledOut 33 = .ok (.invokevirtual 51, 3) := by decide +kernel
theorem dX3_sixtiethsRuledOut_36 : decode cX3_sixtiethsRuledOut 36 = .ok (.aload_n 2, 1) := by decide +kernel
theorem dX3_sixtiethsRuledOut_37 : decode cX3_sixtiethsRuledOut 37 = .ok (.invokevirtual 55, 3) := by decide +kernel
theorem dX3_sixtiethsRuledOut_40 : decode cX3_sixtiethsRuledOut 40 = .ok (.ifCond .eq 11, 3) := by decide +kernel
theorem dX3_sixtiethsRuledOut_43 : decode cX3_sixtiethsRuledOut 43 = .ok (.aload_n 3, 1) := by decide +kernel
theorem dX3_sixtiethsRuledOut_44 : decode cX3_sixtiethsRuledOut 44 = .ok (.aload_n 2, 1) := by decide +kernel
theorem dX3_sixtiethsRuledOut_45 : decode cX3_sixtiethsRuledOut 45 = .ok (.invokevirtual 69, 3) := by decide +kernel
theorem dX3_sixtiethsRuledOut_48 : decode cX3_sixtiethsRuledOut 48 = .ok (.goto 4, 3) := by decide +kernel
theorem dX3_sixtiethsRuledOut_51 : decode cX3_sixtiethsRuledOut 51 = .ok (.iconst 0, 1) := by decide +kernel
theorem dX3_sixtiethsRuledOut_52 : decode cX3_sixtiethsRuledOut 52 = .ok (.istore 7, 2) := by decide +kernel
theorem dX3_sixtiethsRuledOut_54 : decode cX3_sixtiethsRuledOut 54 = .ok (.iload 7, 2) := by decide +kernel
theorem dX3_sixtiethsRuledOut_56 : decode cX3_sixtiethsRuledOut 56 = .ok (.invokestatic 79, 3) := by decide +kernel
theorem dX3_sixtiethsRuledOut_59 : decode cX3_sixtiethsRuledOut 59 = .ok (.istore 8, 2) := by decide +kernel
theorem dX3_sixtiethsRuledOut_61 : decode cX3_sixtiethsRuledOut 61 = .ok (.iload 8, 2) := by decide +kernel
theorem dX3_sixtiethsRuledOut_63 : decode cX3_sixtiethsRuledOut 63 = .ok (.ifCond .le 24, 3) := by decide +kernel
theorem dX3_sixtiethsRuledOut_66 : decode cX3_sixtiethsRuledOut 66 = .ok (.iload 7, 2) := by decide +kernel
theorem dX3_sixtiethsRuledOut_68 : decode cX3_sixtiethsRuledOut 68 = .ok (.iload 4, 2) := by decide +kernel
theorem dX3_sixtiethsRuledOut_70 : decode cX3_sixtiethsRuledOut 70 = .ok (.ishr, 1) := by decide +kernel
theorem dX3_sixtiethsRuledOut_71 : decode cX3_sixtiethsRuledOut 71 = .ok (.iconst 1, 1) := by decide +kernel
theorem dX3_sixtiethsRuledOut_72 : decode cX3_sixtiethsRuledOut 72 = .ok (.iand, 1) := by decide +kernel
theorem dX3_sixtiethsRuledOut_73 : decode cX3_sixtiethsRuledOut 73 = .ok (.iconst 1, 1) := by decide +kernel
theorem dX3_sixtiethsRuledOut_74 : decode cX3_sixtiethsRuledOut 74 = .ok (.if_icmp .ne 13, 3) := by decide +kernel
theorem dX3_sixtiethsRuledOut_77 : decode cX3_sixtiethsRuledOut 77 = .ok (.iload 5, 2) := by decide +kernel
theorem dX3_sixtiethsRuledOut_79 : decode cX3_sixtiethsRuledOut 79 = .ok (.bipush 60, 2) := by decide +kernel
theorem dX3_sixtiethsRuledOut_81 : decode cX3_sixtiethsRuledOut 81 = .ok (.iload 8, 2) := by decide +kernel
theorem dX3_sixtiethsRuledOut_83 : decode cX3_sixtiethsRuledOut 83 = .ok (.idiv, 1) := by decide +kernel
theorem dX3_sixtiethsRuledOut_84 : decode cX3_sixtiethsRuledOut 84 = .ok (.iadd, 1) := by decide +kernel
theorem dX3_sixtiethsRuledOut_85 : decode cX3_sixtiethsRuledOut 85 = .ok (.istore 5, 2) := by decide +kernel
theorem dX3_sixtiethsRuledOut_87 : decode cX3_sixtiethsRuledOut 87 = .ok (.iinc 6 1, 3) := by decide +kernel
theorem dX3_sixtiethsRuledOut_90 : decode cX3_sixtiethsRuledOut 90 = .ok (.goto (-79), 3) := by decide +kernel
theorem dX3_sixtiethsRuledOut_93 : decode cX3_sixtiethsRuledOut 93 = .ok (.iload 5, 2) := by decide +kernel
theorem dX3_sixtiethsRuledOut_95 : decode cX3_sixtiethsRuledOut 95 = .ok (.ireturn, 1) := by decide +kernel
theorem dX3_isBetter_0 : decode cX3_isBetter 0 = .ok (.aload_n 0, 1) := by decide +kernel
theorem dX3_isBetter_1 : decode cX3_isBetter 1 = .ok (.getfield 26, 3) := by decide +kernel
theorem dX3_isBetter_4 : decode cX3_isBetter 4 = .ok (.bipush (-9), 2) := by decide +kernel
theorem dX3_isBetter_6 : decode cX3_isBetter 6 = .ok (.if_icmp .eq 14, 3) := by decide +kernel
theorem dX3_isBetter_9 : decode cX3_isBetter 9 = .ok (.aload_n 1, 1) := by decide +kernel
theorem dX3_isBetter_10 : decode cX3_isBetter 10 = .ok (.getfield 85, 3) := by decide +kernel
theorem dX3_isBetter_13 : decode cX3_isBetter 13 = .ok (.aload_n 0, 1) := by decide +kernel
theorem dX3_isBetter_14 : decode cX3_isBetter 14 = .ok (.getfield 29, 3) := by decide +kernel
theorem dX3_isBetter_17 : decode cX3_isBetter 17 = .ok (.if_icmp .eq 29, 3) := by decide +kernel
theorem dX3_isBetter_20 : decode cX3_isBetter 20 = .ok (.aload_n 0, 1) := by decide +kernel
theorem dX3_isBetter_21 : decode cX3_isBetter 21 = .ok (.getfield 26, 3) := by decide +kernel
theorem dX3_isBetter_24 : decode cX3_isBetter 24 = .ok (.bipush (-9), 2) := by decide +kernel
theorem dX3_isBetter_26 : decode cX3_isBetter 26 = .ok (.if_icmp .eq 14, 3) := by decide +kernel
theorem dX3_isBetter_29 : decode cX3_isBetter 29 = .ok (.aload_n 1, 1) := by decide +kernel
theorem dX3_isBetter_30 : decode cX3_isBetter 30 = .ok (.getfield 85, 3) := by decide +kernel
theorem dX3_isBetter_33 : decode cX3_isBetter 33 = .ok (.aload_n 0, 1) := by decide +kernel
theorem dX3_isBetter_34 : decode cX3_isBetter 34 = .ok (.getfield 29, 3) := by decide +kernel
theorem dX3_isBetter_37 : decode cX3_isBetter 37 = .ok (.if_icmp .le 7, 3) := by decide +kernel
theorem dX3_isBetter_40 : decode cX3_isBetter 40 = .ok (.iconst 1, 1) := by decide +kernel
theorem dX3_isBetter_41 : decode cX3_isBetter 41 = .ok (.goto 4, 3) := by decide +kernel
theorem dX3_isBetter_44 : decode cX3_isBetter 44 = .ok (.iconst 0, 1) := by decide +kernel
theorem dX3_isBetter_45 : decode cX3_isBetter 45 = .ok (.ireturn, 1) := by decide +kernel
theorem dX3_isBetter_46 : decode cX3_isBetter 46 = .ok (.aload_n 1, 1) := by decide +kernel
theorem dX3_isBetter_47 : decode cX3_isBetter 47 = .ok (.getfield 88, 3) := by decide +kernel
theorem dX3_isBetter_50 : decode cX3_isBetter 50 = .ok (.aload_n 0, 1) := by decide +kernel
theorem dX3_isBetter_51 : decode cX3_isBetter 51 = .ok (.getfield 32, 3) := by decide +kernel
theorem dX3_isBetter_54 : decode cX3_isBetter 54 = .ok (.if_icmp .le 7, 3) := by decide +kernel
theorem dX3_isBetter_57 : decode cX3_isBetter 57 = .ok (.iconst 1, 1) := by decide +kernel
theorem dX3_isBetter_58 : decode cX3_isBetter 58 = .ok (.goto 4, 3) := by decide +kernel
theorem dX3_isBetter_61 : decode cX3_isBetter 61 = .ok (.iconst 0, 1) := by decide +kernel
theorem dX3_isBetter_62 : decode cX3_isBetter 62 = .ok (.ireturn, 1) := by decide +kernel
theorem dX3_becomeBest_0 : decode cX3_becomeBest 0 = .ok (.aload_n 0, 1) := by decide +kernel
theorem dX3_becomeBest_1 : decode cX3_becomeBest 1 = .ok (.aload_n 0, 1) := by decide +kernel
theorem dX3_becomeBest_2 : decode cX3_becomeBest 2 = .ok (.getfield 12, 3) := by decide +kernel
theorem dX3_becomeBest_5 : decode cX3_becomeBest 5 = .ok (.invokevirtual 75, 3) := by decide +kernel
theorem dX3_becomeBest_8 : decode cX3_becomeBest 8 = .ok (.putfield 26, 3) := by decide +kernel
theorem dX3_becomeBest_11 : decode cX3_becomeBest 11 = .ok (.aload_n 0, 1) := by decide +kernel
theorem dX3_becomeBest_12 : decode cX3_becomeBest 12 = .ok (.aload_n 1, 1) := by decide +kernel
theorem dX3_becomeBest_13 : decode cX3_becomeBest 13 = .ok (.getfield 85, 3) := by decide +kernel
theorem dX3_becomeBest_16 : decode cX3_becomeBest 16 = .ok (.putfield 29, 3) := by decide +kernel
theorem dX3_becomeBest_19 : decode cX3_becomeBest 19 = .ok (.aload_n 0, 1) := by decide +kernel
theorem dX3_becomeBest_20 : decode cX3_becomeBest 20 = .ok (.aload_n 1, 1) := by decide +kernel
theorem dX3_becomeBest_21 : decode cX3_becomeBest 21 = .ok (.getfield 88, 3) := by decide +kernel
theorem dX3_becomeBest_24 : decode cX3_becomeBest 24 = .ok (.putfield 32, 3) := by decide +kernel
theorem dX3_becomeBest_27 : decode cX3_becomeBest 27 = .ok (.aload_n 1, 1) := by decide +kernel
theorem dX3_becomeBest_28 : decode cX3_becomeBest 28 = .ok (.getfield 91, 3) := by decide +kernel
theorem dX3_becomeBest_31 : decode cX3_becomeBest 31 = .ok (.iconst 0, 1) := by decide +kernel
theorem dX3_becomeBest_32 : decode cX3_becomeBest 32 = .ok (.aload_n 0, 1) := by decide +kernel
theorem dX3_becomeBest_33 : decode cX3_becomeBest 33 = .ok (.getfield 18, 3) := by decide +kernel
theorem dX3_becomeBest_36 : decode cX3_becomeBest 36 = .ok (.iconst 0, 1) := by decide +kernel
theorem dX3_becomeBest_37 : decode cX3_becomeBest 37 = .ok (.bipush 60, 2) := by decide +kernel
theorem dX3_becomeBest_39 : decode cX3_becomeBest 39 = .ok (.invokestatic 94, 3) := by decide +kernel
theorem dX3_becomeBest_42 : decode cX3_becomeBest 42 = .ok (.return_, 1) := by decide +kernel
theorem dX3_readsLikeBest_0 : decode cX3_readsLikeBest 0 = .ok (.aload_n 1, 1) := by decide +kernel
theorem dX3_readsLikeBest_1 : decode cX3_readsLikeBest 1 = .ok (.getfield 88, 3) := by decide +kernel
theorem dX3_readsLikeBest_4 : decode cX3_readsLikeBest 4 = .ok (.aload_n 0, 1) := by decide +kernel
theorem dX3_readsLikeBest_5 : decode cX3_readsLikeBest 5 = .ok (.getfield 32, 3) := by decide +kernel
theorem dX3_readsLikeBest_8 : decode cX3_readsLikeBest 8 = .ok (.if_icmp .eq 5, 3) := by decide +kernel
theorem dX3_readsLikeBest_11 : decode cX3_readsLikeBest 11 = .ok (.iconst 0, 1) := by decide +kernel
theorem dX3_readsLikeBest_12 : decode cX3_readsLikeBest 12 = .ok (.ireturn, 1) := by decide +kernel
theorem dX3_readsLikeBest_13 : decode cX3_readsLikeBest 13 = .ok (.iconst 0, 1) := by decide +kernel
theorem dX3_readsLikeBest_14 : decode cX3_readsLikeBest 14 = .ok (.istore_n 2, 1) := by decide +kernel
theorem dX3_readsLikeBest_15 : decode cX3_readsLikeBest 15 = .ok (.iload_n 2, 1) := by decide +kernel
theorem dX3_readsLikeBest_16 : decode cX3_readsLikeBest 16 = .ok (.aload_n 0, 1) := by decide +kernel
theorem dX3_readsLikeBest_17 : decode cX3_readsLikeBest 17 = .ok (.getfield 32, 3) := by decide +kernel
theorem dX3_readsLikeBest_20 : decode cX3_readsLikeBest 20 = .ok (.if_icmp .ge 32, 3) := by decide +kernel
theorem dX3_readsLikeBest_23 : decode cX3_readsLikeBest 23 = .ok (.iload_n 2, 1) := by decide +kernel
theorem dX3_readsLikeBest_24 : decode cX3_readsLikeBest 24 = .ok (.bipush 60, 2) := by decide +kernel
theorem dX3_readsLikeBest_26 : decode cX3_readsLikeBest 26 = .ok (.if_icmp .ge 26, 3) := by decide +kernel
theorem dX3_readsLikeBest_29 : decode cX3_readsLikeBest 29 = .ok (.aload_n 1, 1) := by decide +kernel
theorem dX3_readsLikeBest_30 : decode cX3_readsLikeBest 30 = .ok (.getfield 91, 3) := by decide +kernel
theorem dX3_readsLikeBest_33 : decode cX3_readsLikeBest 33 = .ok (.iload_n 2, 1) := by decide +kernel
theorem dX3_readsLikeBest_34 : decode cX3_readsLikeBest 34 = .ok (.iaload, 1) := by decide +kernel
theorem dX3_readsLikeBest_35 : decode cX3_readsLikeBest 35 = .ok (.aload_n 0, 1) := by decide +kernel
theorem dX3_readsLikeBest_36 : decode cX3_readsLikeBest 36 = .ok (.getfield 18, 3) := by decide +kernel
theorem dX3_readsLikeBest_39 : decode cX3_readsLikeBest 39 = .ok (.iload_n 2, 1) := by decide +kernel
theorem dX3_readsLikeBest_40 : decode cX3_readsLikeBest 40 = .ok (.iaload, 1) := by decide +kernel
theorem dX3_readsLikeBest_41 : decode cX3_readsLikeBest 41 = .ok (.if_icmp .eq 5, 3) := by decide +kernel
theorem dX3_readsLikeBest_44 : decode cX3_readsLikeBest 44 = .ok (.iconst 0, 1) := by decide +kernel
theorem dX3_readsLikeBest_45 : decode cX3_readsLikeBest 45 = .ok (.ireturn, 1) := by decide +kernel
theorem dX3_readsLikeBest_46 : decode cX3_readsLikeBest 46 = .ok (.iinc 2 1, 3) := by decide +kernel
theorem dX3_readsLikeBest_49 : decode cX3_readsLikeBest 49 = .ok (.goto (-34), 3) := by decide +kernel
theorem dX3_readsLikeBest_52 : decode cX3_readsLikeBest 52 = .ok (.iconst 1, 1) := by decide +kernel
theorem dX3_readsLikeBest_53 : decode cX3_readsLikeBest 53 = .ok (.ireturn, 1) := by decide +kernel
theorem dX4_init_0 : decode cX4_init 0 = .ok (.aload_n 0, 1) := by decide +kernel
theorem dX4_init_1 : decode cX4_init 1 = .ok (.invokespecial 3, 3) := by decide +kernel
theorem dX4_init_4 : decode cX4_init 4 = .ok (.aload_n 0, 1) := by decide +kernel
theorem dX4_init_5 : decode cX4_init 5 = .ok (.new 9, 3) := by decide +kernel
theorem dX4_init_8 : decode cX4_init 8 = .ok (.dup, 1) := by decide +kernel
theorem dX4_init_9 : decode cX4_init 9 = .ok (.invokespecial 11, 3) := by decide +kernel
theorem dX4_init_12 : decode cX4_init 12 = .ok (.putfield 12, 3) := by decide +kernel
theorem dX4_init_15 : decode cX4_init 15 = .ok (.aload_n 0, 1) := by decide +kernel
theorem dX4_init_16 : decode cX4_init 16 = .ok (.bipush 60, 2) := by decide +kernel
theorem dX4_init_18 : decode cX4_init 18 = .ok (.newarray .int, 2) := by decide +kernel
theorem dX4_init_20 : decode cX4_init 20 = .ok (.putfield 18, 3) := by decide +kernel
theorem dX4_init_23 : decode cX4_init 23 = .ok (.aload_n 0, 1) := by decide +kernel
theorem dX4_init_24 : decode cX4_init 24 = .ok (.bipush 60, 2) := by decide +kernel
theorem dX4_init_26 : decode cX4_init 26 = .ok (.newarray .int, 2) := by decide +kernel
theorem dX4_init_28 : decode cX4_init 28 = .ok (.putfield 22, 3) := by decide +kernel
theorem dX4_init_31 : decode cX4_init 31 = .ok (.aload_n 0, 1) := by decide +kernel
theorem dX4_init_32 : decode cX4_init 32 = .ok (.iconst 0, 1) := by decide +kernel
theorem dX4_init_33 : decode cX4_init 33 = .ok (.putfield 25, 3) := by decide +kernel
theorem dX4_init_36 : decode cX4_init 36 = .ok (.aload_n 0, 1) := by decide +kernel
theorem dX4_init_37 : decode cX4_init 37 = .ok (.iconst 0, 1) := by decide +kernel
theorem dX4_init_38 : decode cX4_init 38 = .ok (.putfield 29, 3) := by decide +kernel
theorem dX4_init_41 : decode cX4_init 41 = .ok (.aload_n 0, 1) := by decide +kernel
theorem dX4_init_42 : decode cX4_init 42 = .ok (.bipush (-9), 2) := by decide +kernel
theorem dX4_init_44 : decode cX4_init 44 = .ok (.putfield 32, 3) := by decide +kernel
theorem dX4_init_47 : decode cX4_init 47 = .ok (.aload_n 0, 1) := by decide +kernel
theorem dX4_init_48 : decode cX4_init 48 = .ok (.sipush 360, 3) := by decide +kernel
theorem dX4_init_51 : decode cX4_init 51 = .ok (.putfield 35, 3) := by decide +kernel
theorem dX4_init_54 : decode cX4_init 54 = .ok (.aload_n 0, 1) := by decide +kernel
theorem dX4_init_55 : decode cX4_init 55 = .ok (.new 38, 3) := by decide +kernel
theorem dX4_init_58 : decode cX4_init 58 = .ok (.dup, 1) := by decide +kernel
theorem dX4_init_59 : decode cX4_init 59 = .ok (.invokespecial 40, 3) := by decide +kernel
theorem dX4_init_62 : decode cX4_init 62 = .ok (.putfield 41, 3) := by decide +kernel
theorem dX4_init_65 : decode cX4_init 65 = .ok (.return_, 1) := by decide +kernel
theorem dX4_listenTo_0 : decode cX4_listenTo 0 = .ok (.aload_n 0, 1) := by decide +kernel
theorem dX4_listenTo_1 : decode cX4_listenTo 1 = .ok (.aload_n 1, 1) := by decide +kernel
theorem dX4_listenTo_2 : decode cX4_listenTo 2 = .ok (.putfield 41, 3) := by decide +kernel
theorem dX4_listenTo_5 : decode cX4_listenTo 5 = .ok (.aload_n 0, 1) := by decide +kernel
theorem dX4_listenTo_6 : decode cX4_listenTo 6 = .ok (.getfield 12, 3) := by decide +kernel
theorem dX4_listenTo_9 : decode cX4_listenTo 9 = .ok (.aload_n 1, 1) := by decide +kernel
theorem dX4_listenTo_10 : decode cX4_listenTo 10 = .ok (.invokevirtual 45, 3) := by decide +kernel
theorem dX4_listenTo_13 : decode cX4_listenTo 13 = .ok (.return_, 1) := by decide +kernel
theorem dX4_read_0 : decode cX4_read 0 = .ok (.aload_n 0, 1) := by decide +kernel
theorem dX4_read_1 : decode cX4_read 1 = .ok (.iconst 0, 1) := by decide +kernel
theorem dX4_read_2 : decode cX4_read 2 = .ok (.putfield 25, 3) := by decide +kernel
theorem dX4_read_5 : decode cX4_read 5 = .ok (.aload_n 0, 1) := by decide +kernel
theorem dX4_read_6 : decode cX4_read 6 = .ok (.iconst 0, 1) := by decide +kernel
theorem dX4_read_7 : decode cX4_read 7 = .ok (.putfield 29, 3) := by decide +kernel
theorem dX4_read_10 : decode cX4_read 10 = .ok (.aload_n 0, 1) := by decide +kernel
theorem dX4_read_11 : decode cX4_read 11 = .ok (.bipush (-9), 2) := by decide +kernel
theorem dX4_read_13 : decode cX4_read 13 = .ok (.putfield 32, 3) := by decide +kernel
theorem dX4_read_16 : decode cX4_read 16 = .ok (.aload_n 0, 1) := by decide +kernel
theorem dX4_read_17 : decode cX4_read 17 = .ok (.sipush 360, 3) := by decide +kernel
theorem dX4_read_20 : decode cX4_read 20 = .ok (.putfield 35, 3) := by decide +kernel
theorem dX4_read_23 : decode cX4_read 23 = .ok (.iconst 0, 1) := by decide +kernel
theorem dX4_read_24 : decode cX4_read 24 = .ok (.istore_n 2, 1) := by decide +kernel
theorem dX4_read_25 : decode cX4_read 25 = .ok (.iconst 0, 1) := by decide +kernel
theorem dX4_read_26 : decode cX4_read 26 = .ok (.istore_n 3, 1) := by decide +kernel
theorem dX4_read_27 : decode cX4_read 27 = .ok (.iload_n 3, 1) := by decide +kernel
theorem dX4_read_28 : decode cX4_read 28 = .ok (.bipush 60, 2) := by decide +kernel
theorem dX4_read_30 : decode cX4_read 30 = .ok (.if_icmp .ge 87, 3) := by decide +kernel
theorem dX4_read_33 : decode cX4_read 33 = .ok (.aload_n 0, 1) := by decide +kernel
theorem dX4_read_34 : decode cX4_read 34 = .ok (.iload_n 2, 1) := by decide +kernel
theorem dX4_read_35 : decode cX4_read 35 = .ok (.aload_n 1, 1) := by decide +kernel
theorem dX4_read_36 : decode cX4_read 36 = .ok (.getfield 49, 3) := by decide +kernel
theorem dX4_read_39 : decode cX4_read 39 = .ok (.invokevirtual 54, 3) := by decide +kernel
theorem dX4_read_42 : decode cX4_read 42 = .ok (.istore 4, 2) := by decide +kernel
theorem dX4_read_44 : decode cX4_read 44 = .ok (.iload 4, 2) := by decide +kernel
theorem dX4_read_46 : decode cX4_read 46 = .ok (.bipush (-9), 2) := by decide +kernel
theorem dX4_read_48 : decode cX4_read 48 = .ok (.if_icmp .ne 4, 3) := by decide +kernel
theorem dX4_read_51 : decode cX4_read 51 = .ok (.return_, 1) := by decide +kernel
theorem dX4_read_52 : decode cX4_read 52 = .ok (.aload_n 0, 1) := by decide +kernel
theorem dX4_read_53 : decode cX4_read 53 = .ok (.aload_n 1, 1) := by decide +kernel
theorem dX4_read_54 : decode cX4_read 54 = .ok (.iload 4, 2) := by decide +kernel
theorem dX4_read_56 : decode cX4_read 56 = .ok (.invokevirtual 58, 3) := by decide +kernel
theorem dX4_read_59 : decode cX4_read 59 = .ok (.istore 5, 2) := by decide +kernel
theorem dX4_read_61 : decode cX4_read 61 = .ok (.iload 5, 2) := by decide +kernel
theorem dX4_read_63 : decode cX4_read 63 = .ok (.bipush (-9), 2) := by decide +kernel
theorem dX4_read_65 : decode cX4_read 65 = .ok (.if_icmp .ne 10, 3) := by decide +kernel
theorem dX4_read_68 : decode cX4_read 68 = .ok (.aload_n 0, 1) := by decide +kernel
theorem dX4_read_69 : decode cX4_read 69 = .ok (.iload 4, 2) := by decide +kernel
theorem dX4_read_71 : decode cX4_read 71 = .ok (.putfield 32, 3) := by decide +kernel
theorem dX4_read_74 : decode cX4_read 74 = .ok (.return_, 1) := by decide +kernel
theorem dX4_read_75 : decode cX4_read 75 = .ok (.aload_n 0, 1) := by decide +kernel
theorem dX4_read_76 : decode cX4_read 76 = .ok (.getfield 18, 3) := by decide +kernel
theorem dX4_read_79 : decode cX4_read 79 = .ok (.iload_n 3, 1) := by decide +kernel
theorem dX4_read_80 : decode cX4_read 80 = .ok (.iload 5, 2) := by decide +kernel
theorem dX4_read_82 : decode cX4_read 82 = .ok (.iastore, 1) := by decide +kernel
theorem dX4_read_83 : decode cX4_read 83 = .ok (.aload_n 0, 1) := by decide +kernel
theorem dX4_read_84 : decode cX4_read 84 = .ok (.getfield 22, 3) := by decide +kernel
theorem dX4_read_87 : decode cX4_read 87 = .ok (.iload_n 3, 1) := by decide +kernel
theorem dX4_read_88 : decode cX4_read 88 = .ok (.iload 4, 2) := by decide +kernel
theorem dX4_read_90 : decode cX4_read 90 = .ok (.iastore, 1) := by decide +kernel
theorem dX4_read_91 : decode cX4_read 91 = .ok (.aload_n 0, 1) := by decide +kernel
theorem dX4_read_92 : decode cX4_read 92 = .ok (.iload_n 3, 1) := by decide +kernel
theorem dX4_read_93 : decode cX4_read 93 = .ok (.iconst 1, 1) := by decide +kernel
theorem dX4_read_94 : decode cX4_read 94 = .ok (.iadd, 1) := by decide +kernel
