theorem dX6_init_0 : decode cX6_init 0 = .ok (.aload_n 0, 1) := by decide +kernel
theorem dX6_init_1 : decode cX6_init 1 = .ok (.invokespecial 1, 3) := by decide +kernel
theorem dX6_init_4 : decode cX6_init 4 = .ok (.aload_n 0, 1) := by decide +kernel
theorem dX6_init_5 : decode cX6_init 5 = .ok (.sipush 1241, 3) := by decide +kernel
theorem dX6_init_8 : decode cX6_init 8 = .ok (.newarray .int, 2) := by decide +kernel
theorem dX6_init_10 : decode cX6_init 10 = .ok (.putfield 7, 3) := by decide +kernel
theorem dX6_init_13 : decode cX6_init 13 = .ok (.aload_n 0, 1) := by decide +kernel
theorem dX6_init_14 : decode cX6_init 14 = .ok (.bipush 60, 2) := by decide +kernel
theorem dX6_init_16 : decode cX6_init 16 = .ok (.newarray .int, 2) := by decide +kernel
theorem dX6_init_18 : decode cX6_init 18 = .ok (.putfield 13, 3) := by decide +kernel
theorem dX6_init_21 : decode cX6_init 21 = .ok (.aload_n 0, 1) := by decide +kernel
theorem dX6_init_22 : decode cX6_init 22 = .ok (.bipush 60, 2) := by decide +kernel
theorem dX6_init_24 : decode cX6_init 24 = .ok (.newarray .int, 2) := by decide +kernel
theorem dX6_init_26 : decode cX6_init 26 = .ok (.putfield 16, 3) := by decide +kernel
theorem dX6_init_29 : decode cX6_init 29 = .ok (.aload_n 0, 1) := by decide +kernel
theorem dX6_init_30 : decode cX6_init 30 = .ok (.bipush 60, 2) := by decide +kernel
theorem dX6_init_32 : decode cX6_init 32 = .ok (.newarray .int, 2) := by decide +kernel
theorem dX6_init_34 : decode cX6_init 34 = .ok (.putfield 19, 3) := by decide +kernel
theorem dX6_init_37 : decode cX6_init 37 = .ok (.aload_n 0, 1) := by decide +kernel
theorem dX6_init_38 : decode cX6_init 38 = .ok (.iconst 4, 1) := by decide +kernel
theorem dX6_init_39 : decode cX6_init 39 = .ok (.newarray .int, 2) := by decide +kernel
theorem dX6_init_41 : decode cX6_init 41 = .ok (.putfield 22, 3) := by decide +kernel
theorem dX6_init_44 : decode cX6_init 44 = .ok (.aload_n 0, 1) := by decide +kernel
theorem dX6_init_45 : decode cX6_init 45 = .ok (.iconst 4, 1) := by decide +kernel
theorem dX6_init_46 : decode cX6_init 46 = .ok (.newarray .int, 2) := by decide +kernel
theorem dX6_init_48 : decode cX6_init 48 = .ok (.putfield 25, 3) := by decide +kernel
theorem dX6_init_51 : decode cX6_init 51 = .ok (.aload_n 0, 1) := by decide +kernel
theorem dX6_init_52 : decode cX6_init 52 = .ok (.sipush 600, 3) := by decide +kernel
theorem dX6_init_55 : decode cX6_init 55 = .ok (.newarray .int, 2) := by decide +kernel
theorem dX6_init_57 : decode cX6_init 57 = .ok (.putfield 28, 3) := by decide +kernel
theorem dX6_init_60 : decode cX6_init 60 = .ok (.aload_n 0, 1) := by decide +kernel
theorem dX6_init_61 : decode cX6_init 61 = .ok (.bipush 60, 2) := by decide +kernel
theorem dX6_init_63 : decode cX6_init 63 = .ok (.newarray .int, 2) := by decide +kernel
theorem dX6_init_65 : decode cX6_init 65 = .ok (.putfield 31, 3) := by decide +kernel
theorem dX6_init_68 : decode cX6_init 68 = .ok (.aload_n 0, 1) := by decide +kernel
theorem dX6_init_69 : decode cX6_init 69 = .ok (.bipush 60, 2) := by decide +kernel
theorem dX6_init_71 : decode cX6_init 71 = .ok (.newarray .int, 2) := by decide +kernel
theorem dX6_init_73 : decode cX6_init 73 = .ok (.putfield 34, 3) := by decide +kernel
theorem dX6_init_76 : decode cX6_init 76 = .ok (.aload_n 0, 1) := by decide +kernel
theorem dX6_init_77 : decode cX6_init 77 = .ok (.bipush 60, 2) := by decide +kernel
theorem dX6_init_79 : decode cX6_init 79 = .ok (.newarray .int, 2) := by decide +kernel
theorem dX6_init_81 : decode cX6_init 81 = .ok (.putfield 37, 3) := by decide +kernel
theorem dX6_init_84 : decode cX6_init 84 = .ok (.aload_n 0, 1) := by decide +kernel
theorem dX6_init_85 : decode cX6_init 85 = .ok (.bipush 120, 2) := by decide +kernel
theorem dX6_init_87 : decode cX6_init 87 = .ok (.newarray .char, 2) := by decide +kernel
theorem dX6_init_89 : decode cX6_init 89 = .ok (.putfield 40, 3) := by decide +kernel
theorem dX6_init_92 : decode cX6_init 92 = .ok (.aload_n 0, 1) := by decide +kernel
theorem dX6_init_93 : decode cX6_init 93 = .ok (.sipush 128, 3) := by decide +kernel
theorem dX6_init_96 : decode cX6_init 96 = .ok (.newarray .long, 2) := by decide +kernel
theorem dX6_init_98 : decode cX6_init 98 = .ok (.putfield 44, 3) := by decide +kernel
theorem dX6_init_101 : decode cX6_init 101 = .ok (.aload_n 0, 1) := by decide +kernel
theorem dX6_init_102 : decode cX6_init 102 = .ok (.sipush 1400, 3) := by decide +kernel
theorem dX6_init_105 : decode cX6_init 105 = .ok (.newarray .int, 2) := by decide +kernel
theorem dX6_init_107 : decode cX6_init 107 = .ok (.putfield 48, 3) := by decide +kernel
theorem dX6_init_110 : decode cX6_init 110 = .ok (.aload_n 0, 1) := by decide +kernel
theorem dX6_init_111 : decode cX6_init 111 = .ok (.sipush 12410, 3) := by decide +kernel
theorem dX6_init_114 : decode cX6_init 114 = .ok (.newarray .int, 2) := by decide +kernel
theorem dX6_init_116 : decode cX6_init 116 = .ok (.putfield 51, 3) := by decide +kernel
theorem dX6_init_119 : decode cX6_init 119 = .ok (.aload_n 0, 1) := by decide +kernel
theorem dX6_init_120 : decode cX6_init 120 = .ok (.sipush 1241, 3) := by decide +kernel
theorem dX6_init_123 : decode cX6_init 123 = .ok (.newarray .int, 2) := by decide +kernel
theorem dX6_init_125 : decode cX6_init 125 = .ok (.putfield 54, 3) := by decide +kernel
theorem dX6_init_128 : decode cX6_init 128 = .ok (.return_, 1) := by decide +kernel
theorem dX6_thrown_0 : decode cX6_thrown 0 = .ok (.aload_n 0, 1) := by decide +kernel
theorem dX6_thrown_1 : decode cX6_thrown 1 = .ok (.getfield 57, 3) := by decide +kernel
theorem dX6_thrown_4 : decode cX6_thrown 4 = .ok (.ireturn, 1) := by decide +kernel
theorem dX6_fails_0 : decode cX6_fails 0 = .ok (.aload_n 0, 1) := by decide +kernel
theorem dX6_fails_1 : decode cX6_fails 1 = .ok (.iload_n 1, 1) := by decide +kernel
theorem dX6_fails_2 : decode cX6_fails 2 = .ok (.putfield 57, 3) := by decide +kernel
theorem dX6_fails_5 : decode cX6_fails 5 = .ok (.iconst 0, 1) := by decide +kernel
theorem dX6_fails_6 : decode cX6_fails 6 = .ok (.ireturn, 1) := by decide +kernel
theorem dX6_isBetween_0 : decode cX6_isBetween 0 = .ok (.lload_n 0, 1) := by decide +kernel
theorem dX6_isBetween_1 : decode cX6_isBetween 1 = .ok (.lload_n 2, 1) := by decide +kernel
theorem dX6_isBetween_2 : decode cX6_isBetween 2 = .ok (.lcmp, 1) := by decide +kernel
theorem dX6_isBetween_3 : decode cX6_isBetween 3 = .ok (.ifCond .lt 14, 3) := by decide +kernel
theorem dX6_isBetween_6 : decode cX6_isBetween 6 = .ok (.lload_n 0, 1) := by decide +kernel
theorem dX6_isBetween_7 : decode cX6_isBetween 7 = .ok (.lload 4, 2) := by decide +kernel
theorem dX6_isBetween_9 : decode cX6_isBetween 9 = .ok (.lcmp, 1) := by decide +kernel
theorem dX6_isBetween_10 : decode cX6_isBetween 10 = .ok (.ifCond .gt 7, 3) := by decide +kernel
theorem dX6_isBetween_13 : decode cX6_isBetween 13 = .ok (.iconst 1, 1) := by decide +kernel
theorem dX6_isBetween_14 : decode cX6_isBetween 14 = .ok (.goto 4, 3) := by decide +kernel
theorem dX6_isBetween_17 : decode cX6_isBetween 17 = .ok (.iconst 0, 1) := by decide +kernel
theorem dX6_isBetween_18 : decode cX6_isBetween 18 = .ok (.ireturn, 1) := by decide +kernel
theorem dX6_isSlot_0 : decode cX6_isSlot 0 = .ok (.iload_n 0, 1) := by decide +kernel
theorem dX6_isSlot_1 : decode cX6_isSlot 1 = .ok (.ifCond .lt 12, 3) := by decide +kernel
theorem dX6_isSlot_4 : decode cX6_isSlot 4 = .ok (.iload_n 0, 1) := by decide +kernel
theorem dX6_isSlot_5 : decode cX6_isSlot 5 = .ok (.iconst 4, 1) := by decide +kernel
theorem dX6_isSlot_6 : decode cX6_isSlot 6 = .ok (.if_icmp .ge 7, 3) := by decide +kernel
theorem dX6_isSlot_9 : decode cX6_isSlot 9 = .ok (.iconst 1, 1) := by decide +kernel
theorem dX6_isSlot_10 : decode cX6_isSlot 10 = .ok (.goto 4, 3) := by decide +kernel
theorem dX6_isSlot_13 : decode cX6_isSlot 13 = .ok (.iconst 0, 1) := by decide +kernel
theorem dX6_isSlot_14 : decode cX6_isSlot 14 = .ok (.ireturn, 1) := by decide +kernel
theorem dX6_isStratum_0 : decode cX6_isStratum 0 = .ok (.iload_n 0, 1) := by decide +kernel
theorem dX6_isStratum_1 : decode cX6_isStratum 1 = .ok (.ifCond .lt 12, 3) := by decide +kernel
theorem dX6_isStratum_4 : decode cX6_isStratum 4 = .ok (.iload_n 0, 1) := by decide +kernel
theorem dX6_isStratum_5 : decode cX6_isStratum 5 = .ok (.iconst 4, 1) := by decide +kernel
theorem dX6_isStratum_6 : decode cX6_isStratum 6 = .ok (.if_icmp .ge 7, 3) := by decide +kernel
theorem dX6_isStratum_9 : decode cX6_isStratum 9 = .ok (.iconst 1, 1) := by decide +kernel
theorem dX6_isStratum_10 : decode cX6_isStratum 10 = .ok (.goto 4, 3) := by decide +kernel
theorem dX6_isStratum_13 : decode cX6_isStratum 13 = .ok (.iconst 0, 1) := by decide +kernel
theorem dX6_isStratum_14 : decode cX6_isStratum 14 = .ok (.ireturn, 1) := by decide +kernel
theorem dX6_isThere_0 : decode cX6_isThere 0 = .ok (.aload_n 0, 1) := by decide +kernel
theorem dX6_isThere_1 : decode cX6_isThere 1 = .ok (.getfield 7, 3) := by decide +kernel
theorem dX6_isThere_4 : decode cX6_isThere 4 = .ok (.sipush 310, 3) := by decide +kernel
theorem dX6_isThere_7 : decode cX6_isThere 7 = .ok (.iload_n 1, 1) := by decide +kernel
theorem dX6_isThere_8 : decode cX6_isThere 8 = .ok (.imul, 1) := by decide +kernel
theorem dX6_isThere_9 : decode cX6_isThere 9 = .ok (.iaload, 1) := by decide +kernel
theorem dX6_isThere_10 : decode cX6_isThere 10 = .ok (.iconst 1, 1) := by decide +kernel
theorem dX6_isThere_11 : decode cX6_isThere 11 = .ok (.if_icmp .ne 7, 3) := by decide +kernel
theorem dX6_isThere_14 : decode cX6_isThere 14 = .ok (.iconst 1, 1) := by decide +kernel
theorem dX6_isThere_15 : decode cX6_isThere 15 = .ok (.goto 4, 3) := by decide +kernel
theorem dX6_isThere_18 : decode cX6_isThere 18 = .ok (.iconst 0, 1) := by decide +kernel
theorem dX6_isThere_19 : decode cX6_isThere 19 = .ok (.ireturn, 1) := by decide +kernel
theorem dX6_of_0 : decode cX6_of 0 = .ok (.aload_n 0, 1) := by decide +kernel
theorem dX6_of_1 : decode cX6_of 1 = .ok (.getfield 7, 3) := by decide +kernel
theorem dX6_of_4 : decode cX6_of 4 = .ok (.sipush 310, 3) := by decide +kernel
theorem dX6_of_7 : decode cX6_of 7 = .ok (.iload_n 1, 1) := by decide +kernel
theorem dX6_of_8 : decode cX6_of 8 = .ok (.imul, 1) := by decide +kernel
theorem dX6_of_9 : decode cX6_of 9 = .ok (.iload_n 2, 1) := by decide +kernel
theorem dX6_of_10 : decode cX6_of 10 = .ok (.iadd, 1) := by decide +kernel
theorem dX6_of_11 : decode cX6_of 11 = .ok (.iaload, 1) := by decide +kernel
theorem dX6_of_12 : decode cX6_of 12 = .ok (.ireturn, 1) := by decide +kernel
theorem dX6_sets_0 : decode cX6_sets 0 = .ok (.aload_n 0, 1) := by decide +kernel
theorem dX6_sets_1 : decode cX6_sets 1 = .ok (.getfield 7, 3) := by decide +kernel
theorem dX6_sets_4 : decode cX6_sets 4 = .ok (.sipush 310, 3) := by decide +kernel
theorem dX6_sets_7 : decode cX6_sets 7 = .ok (.iload_n 1, 1) := by decide +kernel
theorem dX6_sets_8 : decode cX6_sets 8 = .ok (.imul, 1) := by decide +kernel
theorem dX6_sets_9 : decode cX6_sets 9 = .ok (.iload_n 2, 1) := by decide +kernel
theorem dX6_sets_10 : decode cX6_sets 10 = .ok (.iadd, 1) := by decide +kernel
theorem dX6_sets_11 : decode cX6_sets 11 = .ok (.iload_n 3, 1) := by decide +kernel
theorem dX6_sets_12 : decode cX6_sets 12 = .ok (.iastore, 1) := by decide +kernel
theorem dX6_sets_13 : decode cX6_sets 13 = .ok (.return_, 1) := by decide +kernel
theorem dX6_many_0 : decode cX6_many 0 = .ok (.aload_n 0, 1) := by decide +kernel
theorem dX6_many_1 : decode cX6_many 1 = .ok (.iload_n 1, 1) := by decide +kernel
theorem dX6_many_2 : decode cX6_many 2 = .ok (.bipush 9, 2) := by decide +kernel
theorem dX6_many_4 : decode cX6_many 4 = .ok (.invokevirtual 61, 3) := by decide +kernel
theorem dX6_many_7 : decode cX6_many 7 = .ok (.ireturn, 1) := by decide +kernel
theorem dX6_item_0 : decode cX6_item 0 = .ok (.aload_n 0, 1) := by decide +kernel
theorem dX6_item_1 : decode cX6_item 1 = .ok (.getfield 7, 3) := by decide +kernel
theorem dX6_item_4 : decode cX6_item 4 = .ok (.sipush 310, 3) := by decide +kernel
theorem dX6_item_7 : decode cX6_item 7 = .ok (.iload_n 1, 1) := by decide +kernel
theorem dX6_item_8 : decode cX6_item 8 = .ok (.imul, 1) := by decide +kernel
theorem dX6_item_9 : decode cX6_item 9 = .ok (.bipush 10, 2) := by decide +kernel
theorem dX6_item_11 : decode cX6_item 11 = .ok (.iadd, 1) := by decide +kernel
theorem dX6_item_12 : decode cX6_item 12 = .ok (.iconst 5, 1) := by decide +kernel
theorem dX6_item_13 : decode cX6_item 13 = .ok (.iload_n 2, 1) := by decide +kernel
theorem dX6_item_14 : decode cX6_item 14 = .ok (.imul, 1) := by decide +kernel
theorem dX6_item_15 : decode cX6_item 15 = .ok (.iadd, 1) := by decide +kernel
theorem dX6_item_16 : decode cX6_item 16 = .ok (.iload_n 3, 1) := by decide +kernel
theorem dX6_item_17 : decode cX6_item 17 = .ok (.iadd, 1) := by decide +kernel
theorem dX6_item_18 : decode cX6_item 18 = .ok (.iaload, 1) := by decide +kernel
theorem dX6_item_19 : decode cX6_item 19 = .ok (.ireturn, 1) := by decide +kernel
theorem dX6_setsItem_0 : decode cX6_setsItem 0 = .ok (.sipush 310, 3) := by decide +kernel
theorem dX6_setsItem_3 : decode cX6_setsItem 3 = .ok (.iload_n 1, 1) := by decide +kernel
theorem dX6_setsItem_4 : decode cX6_setsItem 4 = .ok (.imul, 1) := by decide +kernel
theorem dX6_setsItem_5 : decode cX6_setsItem 5 = .ok (.bipush 10, 2) := by decide +kernel
theorem dX6_setsItem_7 : decode cX6_setsItem 7 = .ok (.iadd, 1) := by decide +kernel
theorem dX6_setsItem_8 : decode cX6_setsItem 8 = .ok (.iconst 5, 1) := by decide +kernel
theorem dX6_setsItem_9 : decode cX6_setsItem 9 = .ok (.iload_n 2, 1) := by decide +kernel
theorem dX6_setsItem_10 : decode cX6_setsItem 10 = .ok (.imul, 1) := by decide +kernel
theorem dX6_setsItem_11 : decode cX6_setsItem 11 = .ok (.iadd, 1) := by decide +kernel
theorem dX6_setsItem_12 : decode cX6_setsItem 12 = .ok (.istore 8, 2) := by decide +kernel
theorem dX6_setsItem_14 : decode cX6_setsItem 14 = .ok (.aload_n 0, 1) := by decide +kernel
theorem dX6_setsItem_15 : decode cX6_setsItem 15 = .ok (.getfield 7, 3) := by decide +kernel
theorem dX6_setsItem_18 : decode cX6_setsItem 18 = .ok (.iload 8, 2) := by decide +kernel
theorem dX6_setsItem_20 : decode cX6_setsItem 20 = .ok (.iload_n 3, 1) := by decide +kernel
theorem dX6_setsItem_21 : decode cX6_setsItem 21 = .ok (.iastore, 1) := by decide +kernel
theorem dX6_setsItem_22 : decode cX6_setsItem 22 = .ok (.aload_n 0, 1) := by decide +kernel
theorem dX6_setsItem_23 : decode cX6_setsItem 23 = .ok (.getfield 7, 3) := by decide +kernel
theorem dX6_setsItem_26 : decode cX6_setsItem 26 = .ok (.iload 8, 2) := by decide +kernel
theorem dX6_setsItem_28 : decode cX6_setsItem 28 = .ok (.iconst 1, 1) := by decide +kernel
theorem dX6_setsItem_29 : decode cX6_setsItem 29 = .ok (.iadd, 1) := by decide +kernel
theorem dX6_setsItem_30 : decode cX6_setsItem 30 = .ok (.iload 4, 2) := by decide +kernel
theorem dX6_setsItem_32 : decode cX6_setsItem 32 = .ok (.iastore, 1) := by decide +kernel
theorem dX6_setsItem_33 : decode cX6_setsItem 33 = .ok (.aload_n 0, 1) := by decide +kernel
theorem dX6_setsItem_34 : decode cX6_setsItem 34 = .ok (.getfield 7, 3) := by decide +kernel
theorem dX6_setsItem_37 : decode cX6_setsItem 37 = .ok (.iload 8, 2) := by decide +kernel
theorem dX6_setsItem_39 : decode cX6_setsItem 39 = .ok (.iconst 2, 1) := by decide +kernel
theorem dX6_setsItem_40 : decode cX6_setsItem 40 = .ok (.iadd, 1) := by decide +kernel
theorem dX6_setsItem_41 : decode cX6_setsItem 41 = .ok (.iload 5, 2) := by decide +kernel
theorem dX6_setsItem_43 : decode cX6_setsItem 43 = .ok (.iastore, 1) := by decide +kernel
theorem dX6_setsItem_44 : decode cX6_setsItem 44 = .ok (.aload_n 0, 1) := by decide +kernel
theorem dX6_setsItem_45 : decode cX6_setsItem 45 = .ok (.getfield 7, 3) := by decide +kernel
theorem dX6_setsItem_48 : decode cX6_setsItem 48 = .ok (.iload 8, 2) := by decide +kernel
theorem dX6_setsItem_50 : decode cX6_setsItem 50 = .ok (.iconst 3, 1) := by decide +kernel
theorem dX6_setsItem_51 : decode cX6_setsItem 51 = .ok (.iadd, 1) := by decide +kernel
theorem dX6_setsItem_52 : decode cX6_setsItem 52 = .ok (.iload 6, 2) := by decide +kernel
theorem dX6_setsItem_54 : decode cX6_setsItem 54 = .ok (.iastore, 1) := by decide +kernel
theorem dX6_setsItem_55 : decode cX6_setsItem 55 = .ok (.aload_n 0, 1) := by decide +kernel
theorem dX6_setsItem_56 : decode cX6_setsItem 56 = .ok (.getfield 7, 3) := by decide +kernel
theorem dX6_setsItem_59 : decode cX6_setsItem 59 = .ok (.iload 8, 2) := by decide +kernel
theorem dX6_setsItem_61 : decode cX6_setsItem 61 = .ok (.iconst 4, 1) := by decide +kernel
theorem dX6_setsItem_62 : decode cX6_setsItem 62 = .ok (.iadd, 1) := by decide +kernel
theorem dX6_setsItem_63 : decode cX6_setsItem 63 = .ok (.iload 7, 2) := by decide +kernel
theorem dX6_setsItem_65 : decode cX6_setsItem 65 = .ok (.iastore, 1) := by decide +kernel
theorem dX6_setsItem_66 : decode cX6_setsItem 66 = .ok (.return_, 1) := by decide +kernel
theorem dX6_isItem_0 : decode cX6_isItem 0 = .ok (.iload_n 0, 1) := by decide +kernel
theorem dX6_isItem_1 : decode cX6_isItem 1 = .ok (.i2l, 1) := by decide +kernel
theorem dX6_isItem_2 : decode cX6_isItem 2 = .ok (.lconst 0, 1) := by decide +kernel
theorem dX6_isItem_3 : decode cX6_isItem 3 = .ok (.ldc2_w 65, 3) := by decide +kernel
theorem dX6_isItem_6 : decode cX6_isItem 6 = .ok (.invokestatic 67, 3) := by decide +kernel
theorem dX6_isItem_9 : decode cX6_isItem 9 = .ok (.ifCond .eq 40, 3) := by decide +kernel
theorem dX6_isItem_12 : decode cX6_isItem 12 = .ok (.iload_n 1, 1) := by decide +kernel
theorem dX6_isItem_13 : decode cX6_isItem 13 = .ok (.invokestatic 71, 3) := by decide +kernel
theorem dX6_isItem_16 : decode cX6_isItem 16 = .ok (.ifCond .eq 33, 3) := by decide +kernel
theorem dX6_isItem_19 : decode cX6_isItem 19 = .ok (.iload_n 2, 1) := by decide +kernel
theorem dX6_isItem_20 : decode cX6_isItem 20 = .ok (.i2l, 1) := by decide +kernel
theorem dX6_isItem_21 : decode cX6_isItem 21 = .ok (.lconst 1, 1) := by decide +kernel
theorem dX6_isItem_22 : decode cX6_isItem 22 = .ok (.ldc2_w 65, 3) := by decide +kernel
theorem dX6_isItem_25 : decode cX6_isItem 25 = .ok (.invokestatic 67, 3) := by decide +kernel
theorem dX6_isItem_28 : decode cX6_isItem 28 = .ok (.ifCond .eq 21, 3) := by decide +kernel
theorem dX6_isItem_31 : decode cX6_isItem 31 = .ok (.iload_n 3, 1) := by decide +kernel
theorem dX6_isItem_32 : decode cX6_isItem 32 = .ok (.i2l, 1) := by decide +kernel
theorem dX6_isItem_33 : decode cX6_isItem 33 = .ok (.ldc2_w 75, 3) := by decide +kernel
theorem dX6_isItem_36 : decode cX6_isItem 36 = .ok (.ldc2_w 77, 3) := by decide +kernel
theorem dX6_isItem_39 : decode cX6_isItem 39 = .ok (.invokestatic 67, 3) := by decide +kernel
theorem dX6_isItem_42 : decode cX6_isItem 42 = .ok (.ifCond .eq 7, 3) := by decide +kernel
theorem dX6_isItem_45 : decode cX6_isItem 45 = .ok (.iconst 1, 1) := by decide +kernel
theorem dX6_isItem_46 : decode cX6_isItem 46 = .ok (.goto 4, 3) := by decide +kernel
theorem dX6_isItem_49 : decode cX6_isItem 49 = .ok (.iconst 0, 1) := by decide +kernel
theorem dX6_isItem_50 : decode cX6_isItem 50 = .ok (.ireturn, 1) := by decide +kernel
theorem dX6_begins_0 : decode cX6_begins 0 = .ok (.aload_n 0, 1) := by decide +kernel
theorem dX6_begins_1 : decode cX6_begins 1 = .ok (.iload_n 1, 1) := by decide +kernel
theorem dX6_begins_2 : decode cX6_begins 2 = .ok (.iconst 0, 1) := by decide +kernel
theorem dX6_begins_3 : decode cX6_begins 3 = .ok (.iconst 1, 1) := by decide +kernel
theorem dX6_begins_4 : decode cX6_begins 4 = .ok (.invokevirtual 79, 3) := by decide +kernel
theorem dX6_begins_7 : decode cX6_begins 7 = .ok (.aload_n 0, 1) := by decide +kernel
theorem dX6_begins_8 : decode cX6_begins 8 = .ok (.iload_n 1, 1) := by decide +kernel
theorem dX6_begins_9 : decode cX6_begins 9 = .ok (.iconst 1, 1) := by decide +kernel
theorem dX6_begins_10 : decode cX6_begins 10 = .ok (.iload_n 2, 1) := by decide +kernel
theorem dX6_begins_11 : decode cX6_begins 11 = .ok (.invokevirtual 79, 3) := by decide +kernel
theorem dX6_begins_14 : decode cX6_begins 14 = .ok (.aload_n 0, 1) := by decide +kernel
theorem dX6_begins_15 : decode cX6_begins 15 = .ok (.iload_n 1, 1) := by decide +kernel
theorem dX6_begins_16 : decode cX6_begins 16 = .ok (.iconst 2, 1) := by decide +kernel
theorem dX6_begins_17 : decode cX6_begins 17 = .ok (.iload_n 3, 1) := by decide +kernel
theorem dX6_begins_18 : decode cX6_begins 18 = .ok (.invokevirtual 79, 3) := by decide +kernel
theorem dX6_begins_21 : decode cX6_begins 21 = .ok (.aload_n 0, 1) := by decide +kernel
theorem dX6_begins_22 : decode cX6_begins 22 = .ok (.iload_n 1, 1) := by decide +kernel
theorem dX6_begins_23 : decode cX6_begins 23 = .ok (.iconst 3, 1) := by decide +kernel
theorem dX6_begins_24 : decode cX6_begins 24 = .ok (.iload 4, 2) := by decide +kernel
theorem dX6_begins_26 : decode cX6_begins 26 = .ok (.invokevirtual 79, 3) := by decide +kernel
theorem dX6_begins_29 : decode cX6_begins 29 = .ok (.aload_n 0, 1) := by decide +kernel
theorem dX6_begins_30 : decode cX6_begins 30 = .ok (.iload_n 1, 1) := by decide +kernel
theorem dX6_begins_31 : decode cX6_begins 31 = .ok (.iconst 4, 1) := by decide +kernel
theorem dX6_begins_32 : decode cX6_begins 32 = .ok (.iload 5, 2) := by decide +kernel
theorem dX6_begins_34 : decode cX6_begins 34 = .ok (.invokevirtual 79, 3) := by decide +kernel
theorem dX6_begins_37 : decode cX6_begins 37 = .ok (.iconst 0, 1) := by decide +kernel
theorem dX6_begins_38 : decode cX6_begins 38 = .ok (.istore 6, 2) := by decide +kernel
theorem dX6_begins_40 : decode cX6_begins 40 = .ok (.iload 6, 2) := by decide +kernel
theorem dX6_begins_42 : decode cX6_begins 42 = .ok (.iconst 4, 1) := by decide +kernel
theorem dX6_begins_43 : decode cX6_begins 43 = .ok (.if_icmp .ge 19, 3) := by decide +kernel
theorem dX6_begins_46 : decode cX6_begins 46 = .ok (.aload_n 0, 1) := by decide +kernel
theorem dX6_begins_47 : decode cX6_begins 47 = .ok (.iload_n 1, 1) := by decide +kernel
theorem dX6_begins_48 : decode cX6_begins 48 = .ok (.iconst 5, 1) := by decide +kernel
theorem dX6_begins_49 : decode cX6_begins 49 = .ok (.iload 6, 2) := by decide +kernel
theorem dX6_begins_51 : decode cX6_begins 51 = .ok (.iadd, 1) := by decide +kernel
theorem dX6_begins_52 : decode cX6_begins 52 = .ok (.iload_n 3, 1) := by decide +kernel
theorem dX6_begins_53 : decode cX6_begins 53 = .ok (.invokevirtual 79, 3) := by decide +kernel
theorem dX6_begins_56 : decode cX6_begins 56 = .ok (.iinc 6 1, 3) := by decide +kernel
theorem dX6_begins_59 : decode cX6_begins 59 = .ok (.goto (-19), 3) := by decide +kernel
theorem dX6_begins_62 : decode cX6_begins 62 = .ok (.aload_n 0, 1) := by decide +kernel
theorem dX6_begins_63 : decode cX6_begins 63 = .ok (.iload_n 1, 1) := by decide +kernel
theorem dX6_begins_64 : decode cX6_begins 64 = .ok (.bipush 9, 2) := by decide +kernel
theorem dX6_begins_66 : decode cX6_begins 66 = .ok (.iconst 0, 1) := by decide +kernel
theorem dX6_begins_67 : decode cX6_begins 67 = .ok (.invokevirtual 79, 3) := by decide +kernel
theorem dX6_begins_70 : decode cX6_begins 70 = .ok (.return_, 1) := by decide +kernel
theorem dX6_isSummary_0 : decode cX6_isSummary 0 = .ok (.lload_n 0, 1) := by decide +kernel
theorem dX6_isSummary_1 : decode cX6_isSummary 1 = .ok (.lconst 0, 1) := by decide +kernel
theorem dX6_isSummary_2 : decode cX6_isSummary 2 = .ok (.ldc2_w 83, 3) := by decide +kernel
theorem dX6_isSummary_5 : decode cX6_isSummary 5 = .ok (.invokestatic 67, 3) := by decide +kernel
theorem dX6_isSummary_8 : decode cX6_isSummary 8 = .ok (.ifCond .eq 30, 3) := by decide +kernel
theorem dX6_isSummary_11 : decode cX6_isSummary 11 = .ok (.lload_n 2, 1) := by decide +kernel
theorem dX6_isSummary_12 : decode cX6_isSummary 12 = .ok (.lconst 1, 1) := by decide +kernel
theorem dX6_isSummary_13 : decode cX6_isSummary 13 = .ok (.ldc2_w 85, 3) := by decide +kernel
theorem dX6_isSummary_16 : decode cX6_isSummary 16 = .ok (.invokestatic 67, 3) := by decide +kernel
theorem dX6_isSummary_19 : decode cX6_isSummary 19 = .ok (.ifCond .eq 19, 3) := by decide +kernel
theorem dX6_isSummary_22 : decode cX6_isSummary 22 = .ok (.lload 4, 2) := by decide +kernel
theorem dX6_isSummary_24 : decode cX6_isSummary 24 = .ok (.lconst 0, 1) := by decide +kernel
theorem dX6_isSummary_25 : decode cX6_isSummary 25 = .ok (.ldc2_w 87, 3) := by decide +kernel
theorem dX6_isSummary_28 : decode cX6_isSummary 28 = .ok (.invokestatic 67, 3) := by decide +kernel
theorem dX6_isSummary_31 : decode cX6_isSummary 31 = .ok (.ifCond .eq 7, 3) := by decide +kernel
theorem dX6_isSummary_34 : decode cX6_isSummary 34 = .ok (.iconst 1, 1) := by decide +kernel
theorem dX6_isSummary_35 : decode cX6_isSummary 35 = .ok (.goto 4, 3) := by decide +kernel
theorem dX6_isSummary_38 : decode cX6_isSummary 38 = .ok (.iconst 0, 1) := by decide +kernel
theorem dX6_isSummary_39 : decode cX6_isSummary 39 = .ok (.ireturn, 1) := by decide +kernel
theorem dX6_keptBy_0 : decode cX6_keptBy 0 = .ok (.aload_n 0, 1) := by decide +kernel
theorem dX6_keptBy_1 : decode cX6_keptBy 1 = .ok (.iload_n 1, 1) := by decide +kernel
theorem dX6_keptBy_2 : decode cX6_keptBy 2 = .ok (.invokevirtual 89, 3) := by decide +kernel
theorem dX6_keptBy_5 : decode cX6_keptBy 5 = .ok (.ifCond .eq 11, 3) := by decide +kernel
theorem dX6_keptBy_8 : decode cX6_keptBy 8 = .ok (.aload_n 0, 1) := by decide +kernel
theorem dX6_keptBy_9 : decode cX6_keptBy 9 = .ok (.iload_n 1, 1) := by decide +kernel
theorem dX6_keptBy_10 : decode cX6_keptBy 10 = .ok (.invokevirtual 92, 3) := by decide +kernel
theorem dX6_keptBy_13 : decode cX6_keptBy 13 = .ok (.goto 4, 3) := by decide +kernel
theorem dX6_keptBy_16 : decode cX6_keptBy 16 = .ok (.iconst 0, 1) := by decide +kernel
theorem dX6_keptBy_17 : decode cX6_keptBy 17 = .ok (.ireturn, 1) := by decide +kernel
theorem dX6_define_0 : decode cX6_define 0 = .ok (.iload_n 1, 1) := by decide +kernel
theorem dX6_define_1 : decode cX6_define 1 = .ok (.invokestatic 96, 3) := by decide +kernel
theorem dX6_define_4 : decode cX6_define 4 = .ok (.ifCond .ne 9, 3) := by decide +kernel
theorem dX6_define_7 : decode cX6_define 7 = .ok (.aload_n 0, 1) := by decide +kernel
theorem dX6_define_8 : decode cX6_define 8 = .ok (.iconst 1, 1) := by decide +kernel
theorem dX6_define_9 : decode cX6_define 9 = .ok (.invokevirtual 99, 3) := by decide +kernel
theorem dX6_define_12 : decode cX6_define 12 = .ok (.ireturn, 1) := by decide +kernel
theorem dX6_define_13 : decode cX6_define 13 = .ok (.iload_n 2, 1) := by decide +kernel
theorem dX6_define_14 : decode cX6_define 14 = .ok (.i2l, 1) := by decide +kernel
theorem dX6_define_15 : decode cX6_define 15 = .ok (.iload_n 3, 1) := by decide +kernel
theorem dX6_define_16 : decode cX6_define 16 = .ok (.i2l, 1) := by decide +kernel
theorem dX6_define_17 : decode cX6_define 17 = .ok (.iload 5, 2) := by decide +kernel
theorem dX6_define_19 : decode cX6_define 19 = .ok (.i2l, 1) := by decide +kernel
theorem dX6_define_20 : decode cX6_define 20 = .ok (.invokestatic 102, 3) := by decide +kernel
theorem dX6_define_23 : decode cX6_define 23 = .ok (.ifCond .ne 9, 3) := by decide +kernel
theorem dX6_define_26 : decode cX6_define 26 = .ok (.aload_n 0, 1) := by decide +kernel
theorem dX6_define_27 : decode cX6_define 27 = .ok (.iconst 2, 1) := by decide +kernel
theorem dX6_define_28 : decode cX6_define 28 = .ok (.invokevirtual 99, 3) := by decide +kernel
theorem dX6_define_31 : decode cX6_define 31 = .ok (.ireturn, 1) := by decide +kernel
theorem dX6_define_32 : decode cX6_define 32 = .ok (.aload_n 0, 1) := by decide +kernel
theorem dX6_define_33 : decode cX6_define 33 = .ok (.iconst 0, 1) := by decide +kernel
theorem dX6_define_34 : decode cX6_define 34 = .ok (.putfield 57, 3) := by decide +kernel
theorem dX6_define_37 : decode cX6_define 37 = .ok (.aload_n 0, 1) := by decide +kernel
theorem dX6_define_38 : decode cX6_define 38 = .ok (.invokevirtual 105, 3) := by decide +kernel
theorem dX6_define_41 : decode cX6_define 41 = .ok (.aload_n 0, 1) := by decide +kernel
theorem dX6_define_42 : decode cX6_define 42 = .ok (.iload_n 1, 1) := by decide +kernel
theorem dX6_define_43 : decode cX6_define 43 = .ok (.invokevirtual 108, 3) := by decide +kernel
theorem dX6_define_46 : decode cX6_define 46 = .ok (.istore 6, 2) := by decide +kernel
theorem dX6_define_48 : decode cX6_define 48 = .ok (.aload_n 0, 1) := by decide +kernel
theorem dX6_define_49 : decode cX6_define 49 = .ok (.iload_n 1, 1) := by decide +kernel
theorem dX6_define_50 : decode cX6_define 50 = .ok (.iload_n 2, 1) := by decide +kernel
theorem dX6_define_51 : decode cX6_define 51 = .ok (.iload_n 3, 1) := by decide +kernel
theorem dX6_define_52 : decode cX6_define 52 = .ok (.iload 4, 2) := by decide +kernel
theorem dX6_define_54 : decode cX6_define 54 = .ok (.iload 5, 2) := by decide +kernel
theorem dX6_define_56 : decode cX6_define 56 = .ok (.invokevirtual 111, 3) := by decide +kernel
theorem dX6_define_59 : decode cX6_define 59 = .ok (.iload 6, 2) := by decide +kernel
theorem dX6_define_61 : decode cX6_define 61 = .ok (.ireturn, 1) := by decide +kernel
theorem dX6_drop_0 : decode cX6_drop 0 = .ok (.iload_n 1, 1) := by decide +kernel
theorem dX6_drop_1 : decode cX6_drop 1 = .ok (.invokestatic 96, 3) := by decide +kernel
theorem dX6_drop_4 : decode cX6_drop 4 = .ok (.ifCond .ne 9, 3) := by decide +kernel
theorem dX6_drop_7 : decode cX6_drop 7 = .ok (.aload_n 0, 1) := by decide +kernel
theorem dX6_drop_8 : decode cX6_drop 8 = .ok (.iconst 1, 1) := by decide +kernel
theorem dX6_drop_9 : decode cX6_drop 9 = .ok (.invokevirtual 99, 3) := by decide +kernel
theorem dX6_drop_12 : decode cX6_drop 12 = .ok (.ireturn, 1) := by decide +kernel
theorem dX6_drop_13 : decode cX6_drop 13 = .ok (.aload_n 0, 1) := by decide +kernel
theorem dX6_drop_14 : decode cX6_drop 14 = .ok (.iconst 0, 1) := by decide +kernel
theorem dX6_drop_15 : decode cX6_drop 15 = .ok (.putfield 57, 3) := by decide +kernel
theorem dX6_drop_18 : decode cX6_drop 18 = .ok (.aload_n 0, 1) := by decide +kernel
theorem dX6_drop_19 : decode cX6_drop 19 = .ok (.invokevirtual 105, 3) := by decide +kernel
theorem dX6_drop_22 : decode cX6_drop 22 = .ok (.aload_n 0, 1) := by decide +kernel
theorem dX6_drop_23 : decode cX6_drop 23 = .ok (.iload_n 1, 1) := by decide +kernel
theorem dX6_drop_24 : decode cX6_drop 24 = .ok (.invokevirtual 108, 3) := by decide +kernel
theorem dX6_drop_27 : decode cX6_drop 27 = .ok (.istore_n 2, 1) := by decide +kernel
theorem dX6_drop_28 : decode cX6_drop 28 = .ok (.aload_n 0, 1) := by decide +kernel
theorem dX6_drop_29 : decode cX6_drop 29 = .ok (.iload_n 1, 1) := by decide +kernel
theorem dX6_drop_30 : decode cX6_drop 30 = .ok (.iconst 0, 1) := by decide +kernel
theorem dX6_drop_31 : decode cX6_drop 31 = .ok (.iconst 0, 1) := by decide +kernel
theorem dX6_drop_32 : decode cX6_drop 32 = .ok (.invokevirtual 79, 3) := by decide +kernel
theorem dX6_drop_35 : decode cX6_drop 35 = .ok (.iload_n 2, 1) := by decide +kernel
theorem dX6_drop_36 : decode cX6_drop 36 = .ok (.ireturn, 1) := by decide +kernel
theorem dX6_isFull_0 : decode cX6_isFull 0 = .ok (.aload_n 0, 1) := by decide +kernel
theorem dX6_isFull_1 : decode cX6_isFull 1 = .ok (.iload_n 1, 1) := by decide +kernel
theorem dX6_isFull_2 : decode cX6_isFull 2 = .ok (.iconst 4, 1) := by decide +kernel
theorem dX6_isFull_3 : decode cX6_isFull 3 = .ok (.invokevirtual 61, 3) := by decide +kernel
theorem dX6_isFull_6 : decode cX6_isFull 6 = .ok (.ifCond .ne 19, 3) := by decide +kernel
theorem dX6_isFull_9 : decode cX6_isFull 9 = .ok (.aload_n 0, 1) := by decide +kernel
theorem dX6_isFull_10 : decode cX6_isFull 10 = .ok (.iload_n 1, 1) := by decide +kernel
theorem dX6_isFull_11 : decode cX6_isFull 11 = .ok (.invokevirtual 92, 3) := by decide +kernel
theorem dX6_isFull_14 : decode cX6_isFull 14 = .ok (.iload_n 2, 1) := by decide +kernel
theorem dX6_isFull_15 : decode cX6_isFull 15 = .ok (.iadd, 1) := by decide +kernel
theorem dX6_isFull_16 : decode cX6_isFull 16 = .ok (.bipush 60, 2) := by decide +kernel
theorem dX6_isFull_18 : decode cX6_isFull 18 = .ok (.if_icmp .le 7, 3) := by decide +kernel
theorem dX6_isFull_21 : decode cX6_isFull 21 = .ok (.iconst 1, 1) := by decide +kernel
theorem dX6_isFull_22 : decode cX6_isFull 22 = .ok (.goto 4, 3) := by decide +kernel
theorem dX6_isFull_25 : decode cX6_isFull 25 = .ok (.iconst 0, 1) := by decide +kernel
theorem dX6_isFull_26 : decode cX6_isFull 26 = .ok (.ireturn, 1) := by decide +kernel
theorem dX6_takes_0 : decode cX6_takes 0 = .ok (.aload_n 0, 1) := by decide +kernel
theorem dX6_takes_1 : decode cX6_takes 1 = .ok (.iload_n 1, 1) := by decide +kernel
theorem dX6_takes_2 : decode cX6_takes 2 = .ok (.iconst 4, 1) := by decide +kernel
theorem dX6_takes_3 : decode cX6_takes 3 = .ok (.invokevirtual 61, 3) := by decide +kernel
theorem dX6_takes_6 : decode cX6_takes 6 = .ok (.ifCond .le 99, 3) := by decide +kernel
theorem dX6_takes_9 : decode cX6_takes 9 = .ok (.aload_n 0, 1) := by decide +kernel
theorem dX6_takes_10 : decode cX6_takes 10 = .ok (.iload_n 1, 1) := by decide +kernel
theorem dX6_takes_11 : decode cX6_takes 11 = .ok (.invokevirtual 92, 3) := by decide +kernel
theorem dX6_takes_14 : decode cX6_takes 14 = .ok (.aload_n 0, 1) := by decide +kernel
theorem dX6_takes_15 : decode cX6_takes 15 = .ok (.iload_n 1, 1) := by decide +kernel
theorem dX6_takes_16 : decode cX6_takes 16 = .ok (.iconst 4, 1) := by decide +kernel
theorem dX6_takes_17 : decode cX6_takes 17 = .ok (.invokevirtual 61, 3) := by decide +kernel
theorem dX6_takes_20 : decode cX6_takes 20 = .ok (.if_icmp .ne 85, 3) := by decide +kernel
theorem dX6_takes_23 : decode cX6_takes 23 = .ok (.iconst 1, 1) := by decide +kernel
theorem dX6_takes_24 : decode cX6_takes 24 = .ok (.istore 6, 2) := by decide +kernel
theorem dX6_takes_26 : decode cX6_takes 26 = .ok (.iload 6, 2) := by decide +kernel
theorem dX6_takes_28 : decode cX6_takes 28 = .ok (.aload_n 0, 1) := by decide +kernel
theorem dX6_takes_29 : decode cX6_takes 29 = .ok (.iload_n 1, 1) := by decide +kernel
theorem dX6_takes_30 : decode cX6_takes 30 = .ok (.invokevirtual 92, 3) := by decide +kernel
theorem dX6_takes_33 : decode cX6_takes 33 = .ok (.if_icmp .ge 58, 3) := by decide +kernel
theorem dX6_takes_36 : decode cX6_takes 36 = .ok (.aload_n 0, 1) := by decide +kernel
theorem dX6_takes_37 : decode cX6_takes 37 = .ok (.iload_n 1, 1) := by decide +kernel
theorem dX6_takes_38 : decode cX6_takes 38 = .ok (.iload 6, 2) := by decide +kernel
theorem dX6_takes_40 : decode cX6_takes 40 = .ok (.iconst 1, 1) := by decide +kernel
theorem dX6_takes_41 : decode cX6_takes 41 = .ok (.isub, 1) := by decide +kernel
theorem dX6_takes_42 : decode cX6_takes 42 = .ok (.aload_n 0, 1) := by decide +kernel
theorem dX6_takes_43 : decode cX6_takes 43 = .ok (.iload_n 1, 1) := by decide +kernel
theorem dX6_takes_44 : decode cX6_takes 44 = .ok (.iload 6, 2) := by decide +kernel
theorem dX6_takes_46 : decode cX6_takes 46 = .ok (.iconst 0, 1) := by decide +kernel
theorem dX6_takes_47 : decode cX6_takes 47 = .ok (.invokevirtual 115, 3) := by decide +kernel
theorem dX6_takes_50 : decode cX6_takes 50 = .ok (.aload_n 0, 1) := by decide +kernel
theorem dX6_takes_51 : decode cX6_takes 51 = .ok (.iload_n 1, 1) := by decide +kernel
theorem dX6_takes_52 : decode cX6_takes 52 = .ok (.iload 6, 2) := by decide +kernel
theorem dX6_takes_54 : decode cX6_takes 54 = .ok (.iconst 1, 1) := by decide +kernel
theorem dX6_takes_55 : decode cX6_takes 55 = .ok (.invokevirtual 115, 3) := by decide +kernel
theorem dX6_takes_58 : decode cX6_takes 58 = .ok (.aload_n 0, 1) := by decide +kernel
theorem dX6_takes_59 : decode cX6_takes 59 = .ok (.iload_n 1, 1) := by decide +kernel
theorem dX6_takes_60 : decode cX6_takes 60 = .ok (.iload 6, 2) := by decide +kernel
theorem dX6_takes_62 : decode cX6_takes 62 = .ok (.iconst 2, 1) := by decide +kernel
theorem dX6_takes_63 : decode cX6_takes 63 = .ok (.invokevirtual 115, 3) := by decide +kernel
theorem dX6_takes_66 : decode cX6_takes 66 = .ok (.aload_n 0, 1) := by decide +kernel
theorem dX6_takes_67 : decode cX6_takes 67 = .ok (.iload_n 1, 1) := by decide +kernel
theorem dX6_takes_68 : decode cX6_takes 68 = .ok (.iload 6, 2) := by decide +kernel
theorem dX6_takes_70 : decode cX6_takes 70 = .ok (.iconst 3, 1) := by decide +kernel
theorem dX6_takes_71 : decode cX6_takes 71 = .ok (.invokevirtual 115, 3) := by decide +kernel
theorem dX6_takes_74 : decode cX6_takes 74 = .ok (.aload_n 0, 1) := by decide +kernel
theorem dX6_takes_75 : decode cX6_takes 75 = .ok (.iload_n 1, 1) := by decide +kernel
theorem dX6_takes_76 : decode cX6_takes 76 = .ok (.iload 6, 2) := by decide +kernel
theorem dX6_takes_78 : decode cX6_takes 78 = .ok (.iconst 4, 1) := by decide +kernel
theorem dX6_takes_79 : decode cX6_takes 79 = .ok (.invokevirtual 115, 3) := by decide +kernel
theorem dX6_takes_82 : decode cX6_takes 82 = .ok (.invokevirtual 119, 3) := by decide +kernel
theorem dX6_takes_85 : decode cX6_takes 85 = .ok (.iinc 6 1, 3) := by decide +kernel
theorem dX6_takes_88 : decode cX6_takes 88 = .ok (.goto (-62), 3) := by decide +kernel
theorem dX6_takes_91 : decode cX6_takes 91 = .ok (.aload_n 0, 1) := by decide +kernel
theorem dX6_takes_92 : decode cX6_takes 92 = .ok (.iload_n 1, 1) := by decide +kernel
theorem dX6_takes_93 : decode cX6_takes 93 = .ok (.bipush 9, 2) := by decide +kernel
theorem dX6_takes_95 : decode cX6_takes 95 = .ok (.aload_n 0, 1) := by decide +kernel
theorem dX6_takes_96 : decode cX6_takes 96 = .ok (.iload_n 1, 1) := by decide +kernel
theorem dX6_takes_97 : decode cX6_takes 97 = .ok (.invokevirtual 92, 3) := by decide +kernel
theorem dX6_takes_100 : decode cX6_takes 100 = .ok (.iconst 1, 1) := by decide +kernel
theorem dX6_takes_101 : decode cX6_takes 101 = .ok (.isub, 1) := by decide +kernel
theorem dX6_takes_102 : decode cX6_takes 102 = .ok (.invokevirtual 79, 3) := by decide +kernel
theorem dX6_takes_105 : decode cX6_takes 105 = .ok (.aload_n 0, 1) := by decide +kernel
theorem dX6_takes_106 : decode cX6_takes 106 = .ok (.getfield 7, 3) := by decide +kernel
theorem dX6_takes_109 : decode cX6_takes 109 = .ok (.sipush 1240, 3) := by decide +kernel
theorem dX6_takes_112 : decode cX6_takes 112 = .ok (.iaload, 1) := by decide +kernel
theorem dX6_takes_113 : decode cX6_takes 113 = .ok (.istore 6, 2) := by decide +kernel
theorem dX6_takes_115 : decode cX6_takes 115 = .ok (.aload_n 0, 1) := by decide +kernel
theorem dX6_takes_116 : decode cX6_takes 116 = .ok (.iload_n 1, 1) := by decide +kernel
theorem dX6_takes_117 : decode cX6_takes 117 = .ok (.aload_n 0, 1) := by decide +kernel
theorem dX6_takes_118 : decode cX6_takes 118 = .ok (.iload_n 1, 1) := by decide +kernel
theorem dX6_takes_119 : decode cX6_takes 119 = .ok (.invokevirtual 92, 3) := by decide +kernel
theorem dX6_takes_122 : decode cX6_takes 122 = .ok (.iload 6, 2) := by decide +kernel
theorem dX6_takes_124 : decode cX6_takes 124 = .ok (.iload_n 2, 1) := by decide +kernel
theorem dX6_takes_125 : decode cX6_takes 125 = .ok (.iload_n 3, 1) := by decide +kernel
theorem dX6_takes_126 : decode cX6_takes 126 = .ok (.iload 4, 2) := by decide +kernel
theorem dX6_takes_128 : decode cX6_takes 128 = .ok (.iload 5, 2) := by decide +kernel
theorem dX6_takes_130 : decode cX6_takes 130 = .ok (.invokevirtual 119, 3) := by decide +kernel
theorem dX6_takes_133 : decode cX6_takes 133 = .ok (.aload_n 0, 1) := by decide +kernel
theorem dX6_takes_134 : decode cX6_takes 134 = .ok (.iload_n 1, 1) := by decide +kernel
theorem dX6_takes_135 : decode cX6_takes 135 = .ok (.bipush 9, 2) := by decide +kernel
theorem dX6_takes_137 : decode cX6_takes 137 = .ok (.aload_n 0, 1) := by decide +kernel
theorem dX6_takes_138 : decode cX6_takes 138 = .ok (.iload_n 1, 1) := by decide +kernel
theorem dX6_takes_139 : decode cX6_takes 139 = .ok (.invokevirtual 92, 3) := by decide +kernel
theorem dX6_takes_142 : decode cX6_takes 142 = .ok (.iconst 1, 1) := by decide +kernel
theorem dX6_takes_143 : decode cX6_takes 143 = .ok (.iadd, 1) := by decide +kernel
theorem dX6_takes_144 : decode cX6_takes 144 = .ok (.invokevirtual 79, 3) := by decide +kernel
theorem dX6_takes_147 : decode cX6_takes 147 = .ok (.aload_n 0, 1) := by decide +kernel
theorem dX6_takes_148 : decode cX6_takes 148 = .ok (.getfield 7, 3) := by decide +kernel
theorem dX6_takes_151 : decode cX6_takes 151 = .ok (.sipush 1240, 3) := by decide +kernel
theorem dX6_takes_154 : decode cX6_takes 154 = .ok (.dup2, 1) := by decide +kernel
theorem dX6_takes_155 : decode cX6_takes 155 = .ok (.iaload, 1) := by decide +kernel
theorem dX6_takes_156 : decode cX6_takes 156 = .ok (.iconst 1, 1) := by decide +kernel
theorem dX6_takes_157 : decode cX6_takes 157 = .ok (.iadd, 1) := by decide +kernel
theorem dX6_takes_158 : decode cX6_takes 158 = .ok (.iastore, 1) := by decide +kernel
theorem dX6_takes_159 : decode cX6_takes 159 = .ok (.iload 6, 2) := by decide +kernel
theorem dX6_takes_161 : decode cX6_takes 161 = .ok (.ireturn, 1) := by decide +kernel
theorem dX6_offer_0 : decode cX6_offer 0 = .ok (.iload_n 1, 1) := by decide +kernel
theorem dX6_offer_1 : decode cX6_offer 1 = .ok (.invokestatic 96, 3) := by decide +kernel
theorem dX6_offer_4 : decode cX6_offer 4 = .ok (.ifCond .ne 9, 3) := by decide +kernel
theorem dX6_offer_7 : decode cX6_offer 7 = .ok (.aload_n 0, 1) := by decide +kernel
theorem dX6_offer_8 : decode cX6_offer 8 = .ok (.iconst 1, 1) := by decide +kernel
theorem dX6_offer_9 : decode cX6_offer 9 = .ok (.invokevirtual 99, 3) := by decide +kernel
theorem dX6_offer_12 : decode cX6_offer 12 = .ok (.ireturn, 1) := by decide +kernel
theorem dX6_offer_13 : decode cX6_offer 13 = .ok (.iload_n 2, 1) := by decide +kernel
theorem dX6_offer_14 : decode cX6_offer 14 = .ok (.iload_n 3, 1) := by decide +kernel
theorem dX6_offer_15 : decode cX6_offer 15 = .ok (.iload 4, 2) := by decide +kernel
theorem dX6_offer_17 : decode cX6_offer 17 = .ok (.iload 5, 2) := by decide +kernel
theorem dX6_offer_19 : decode cX6_offer 19 = .ok (.invokestatic 123, 3) := by decide +kernel
theorem dX6_offer_22 : decode cX6_offer 22 = .ok (.ifCond .ne 9, 3) := by decide +kernel
theorem dX6_offer_25 : decode cX6_offer 25 = .ok (.aload_n 0, 1) := by decide +kernel
theorem dX6_offer_26 : decode cX6_offer 26 = .ok (.iconst 2, 1) := by decide +kernel
theorem dX6_offer_27 : decode cX6_offer 27 = .ok (.invokevirtual 99, 3) := by decide +kernel
theorem dX6_offer_30 : decode cX6_offer 30 = .ok (.ireturn, 1) := by decide +kernel
theorem dX6_offer_31 : decode cX6_offer 31 = .ok (.aload_n 0, 1) := by decide +kernel
theorem dX6_offer_32 : decode cX6_offer 32 = .ok (.iload_n 1, 1) := by decide +kernel
theorem dX6_offer_33 : decode cX6_offer 33 = .ok (.invokevirtual 89, 3) := by decide +kernel
theorem dX6_offer_36 : decode cX6_offer 36 = .ok (.ifCond .eq 12, 3) := by decide +kernel
theorem dX6_offer_39 : decode cX6_offer 39 = .ok (.aload_n 0, 1) := by decide +kernel
theorem dX6_offer_40 : decode cX6_offer 40 = .ok (.iload_n 1, 1) := by decide +kernel
theorem dX6_offer_41 : decode cX6_offer 41 = .ok (.iconst 1, 1) := by decide +kernel
theorem dX6_offer_42 : decode cX6_offer 42 = .ok (.invokevirtual 127, 3) := by decide +kernel
theorem dX6_offer_45 : decode cX6_offer 45 = .ok (.ifCond .eq 9, 3) := by decide +kernel
theorem dX6_offer_48 : decode cX6_offer 48 = .ok (.aload_n 0, 1) := by decide +kernel
theorem dX6_offer_49 : decode cX6_offer 49 = .ok (.iconst 3, 1) := by decide +kernel
theorem dX6_offer_50 : decode cX6_offer 50 = .ok (.invokevirtual 99, 3) := by decide +kernel
theorem dX6_offer_53 : decode cX6_offer 53 = .ok (.ireturn, 1) := by decide +kernel
theorem dX6_offer_54 : decode cX6_offer 54 = .ok (.aload_n 0, 1) := by decide +kernel
theorem dX6_offer_55 : decode cX6_offer 55 = .ok (.iconst 0, 1) := by decide +kernel
theorem dX6_offer_56 : decode cX6_offer 56 = .ok (.putfield 57, 3) := by decide +kernel
theorem dX6_offer_59 : decode cX6_offer 59 = .ok (.aload_n 0, 1) := by decide +kernel
theorem dX6_offer_60 : decode cX6_offer 60 = .ok (.invokevirtual 105, 3) := by decide +kernel
theorem dX6_offer_63 : decode cX6_offer 63 = .ok (.aload_n 0, 1) := by decide +kernel
theorem dX6_offer_64 : decode cX6_offer 64 = .ok (.iload_n 1, 1) := by decide +kernel
theorem dX6_offer_65 : decode cX6_offer 65 = .ok (.iload_n 2, 1) := by decide +kernel
theorem dX6_offer_66 : decode cX6_offer 66 = .ok (.iload_n 3, 1) := by decide +kernel
theorem dX6_offer_67 : decode cX6_offer 67 = .ok (.iload 4, 2) := by decide +kernel
theorem dX6_offer_69 : decode cX6_offer 69 = .ok (.iload 5, 2) := by decide +kernel
theorem dX6_offer_71 : decode cX6_offer 71 = .ok (.invokevirtual 131, 3) := by decide +kernel
theorem dX6_offer_74 : decode cX6_offer 74 = .ok (.ireturn, 1) := by decide +kernel
theorem dX6_offerDrawn_0 : decode cX6_offerDrawn 0 = .ok (.iload_n 1, 1) := by decide +kernel
theorem dX6_offerDrawn_1 : decode cX6_offerDrawn 1 = .ok (.invokestatic 96, 3) := by decide +kernel
theorem dX6_offerDrawn_4 : decode cX6_offerDrawn 4 = .ok (.ifCond .ne 9, 3) := by decide +kernel
theorem dX6_offerDrawn_7 : decode cX6_offerDrawn 7 = .ok (.aload_n 0, 1) := by decide +kernel
theorem dX6_offerDrawn_8 : decode cX6_offerDrawn 8 = .ok (.iconst 1, 1) := by decide +kernel
theorem dX6_offerDrawn_9 : decode cX6_offerDrawn 9 = .ok (.invokevirtual 99, 3) := by decide +kernel
theorem dX6_offerDrawn_12 : decode cX6_offerDrawn 12 = .ok (.ireturn, 1) := by decide +kernel
theorem dX6_offerDrawn_13 : decode cX6_offerDrawn 13 = .ok (.iload_n 3, 1) := by decide +kernel
theorem dX6_offerDrawn_14 : decode cX6_offerDrawn 14 = .ok (.i2l, 1) := by decide +kernel
theorem dX6_offerDrawn_15 : decode cX6_offerDrawn 15 = .ok (.lconst 0, 1) := by decide +kernel
theorem dX6_offerDrawn_16 : decode cX6_offerDrawn 16 = .ok (.ldc2_w 135, 3) := by decide +kernel
theorem dX6_offerDrawn_19 : decode cX6_offerDrawn 19 = .ok (.invokestatic 67, 3) := by decide +kernel
theorem dX6_offerDrawn_22 : decode cX6_offerDrawn 22 = .ok (.ifCond .ne 9, 3) := by decide +kernel
theorem dX6_offerDrawn_25 : decode cX6_offerDrawn 25 = .ok (.aload_n 0, 1) := by decide +kernel
theorem dX6_offerDrawn_26 : decode cX6_offerDrawn 26 = .ok (.iconst 2, 1) := by decide +kernel
theorem dX6_offerDrawn_27 : decode cX6_offerDrawn 27 = .ok (.invokevirtual 99, 3) := by decide +kernel
theorem dX6_offerDrawn_30 : decode cX6_offerDrawn 30 = .ok (.ireturn, 1) := by decide +kernel
theorem dX6_offerDrawn_31 : decode cX6_offerDrawn 31 = .ok (.aload_n 0, 1) := by decide +kernel
theorem dX6_offerDrawn_32 : decode cX6_offerDrawn 32 = .ok (.iload_n 1, 1) := by decide +kernel
theorem dX6_offerDrawn_33 : decode cX6_offerDrawn 33 = .ok (.invokevirtual 89, 3) := by decide +kernel
theorem dX6_offerDrawn_36 : decode cX6_offerDrawn 36 = .ok (.ifCond .eq 12, 3) := by decide +kernel
theorem dX6_offerDrawn_39 : decode cX6_offerDrawn 39 = .ok (.aload_n 0, 1) := by decide +kernel
theorem dX6_offerDrawn_40 : decode cX6_offerDrawn 40 = .ok (.iload_n 1, 1) := by decide +kernel
theorem dX6_offerDrawn_41 : decode cX6_offerDrawn 41 = .ok (.iload_n 3, 1) := by decide +kernel
theorem dX6_offerDrawn_42 : decode cX6_offerDrawn 42 = .ok (.invokevirtual 127, 3) := by decide +kernel
theorem dX6_offerDrawn_45 : decode cX6_offerDrawn 45 = .ok (.ifCond .eq 9, 3) := by decide +kernel
theorem dX6_offerDrawn_48 : decode cX6_offerDrawn 48 = .ok (.aload_n 0, 1) := by decide +kernel
theorem dX6_offerDrawn_49 : decode cX6_offerDrawn 49 = .ok (.iconst 3, 1) := by decide +kernel
theorem dX6_offerDrawn_50 : decode cX6_offerDrawn 50 = .ok (.invokevirtual 99, 3) := by decide +kernel
theorem dX6_offerDrawn_53 : decode cX6_offerDrawn 53 = .ok (.ireturn, 1) := by decide +kernel
theorem dX6_offerDrawn_54 : decode cX6_offerDrawn 54 = .ok (.aload_n 0, 1) := by decide +kernel
theorem dX6_offerDrawn_55 : decode cX6_offerDrawn 55 = .ok (.iconst 0, 1) := by decide +kernel
theorem dX6_offerDrawn_56 : decode cX6_offerDrawn 56 = .ok (.putfield 57, 3) := by decide +kernel
theorem dX6_offerDrawn_59 : decode cX6_offerDrawn 59 = .ok (.aload_n 0, 1) := by decide +kernel
theorem dX6_offerDrawn_60 : decode cX6_offerDrawn 60 = .ok (.invokevirtual 105, 3) := by decide +kernel
theorem dX6_offerDrawn_63 : decode cX6_offerDrawn 63 = .ok (.iload_n 2, 1) := by decide +kernel
theorem dX6_offerDrawn_64 : decode cX6_offerDrawn 64 = .ok (.istore 4, 2) := by decide +kernel
theorem dX6_offerDrawn_66 : decode cX6_offerDrawn 66 = .ok (.iconst 0, 1) := by decide +kernel
theorem dX6_offerDrawn_67 : decode cX6_offerDrawn 67 = .ok (.istore 5, 2) := by decide +kernel
theorem dX6_offerDrawn_69 : decode cX6_offerDrawn 69 = .ok (.iload 5, 2) := by decide +kernel
theorem dX6_offerDrawn_71 : decode cX6_offerDrawn 71 = .ok (.iload_n 3, 1) := by decide +kernel
theorem dX6_offerDrawn_72 : decode cX6_offerDrawn 72 = .ok (.if_icmp .ge 66, 3) := by decide +kernel
theorem dX6_offerDrawn_75 : decode cX6_offerDrawn 75 = .ok (.iload 4, 2) := by decide +kernel
theorem dX6_offerDrawn_77 : decode cX6_offerDrawn 77 = .ok (.ldc 137, 2) := by decide +kernel
theorem dX6_offerDrawn_79 : decode cX6_offerDrawn 79 = .ok (.imul, 1) := by decide +kernel
theorem dX6_offerDrawn_80 : decode cX6_offerDrawn 80 = .ok (.sipush 12345, 3) := by decide +kernel
theorem dX6_offerDrawn_83 : decode cX6_offerDrawn 83 = .ok (.iadd, 1) := by decide +kernel
theorem dX6_offerDrawn_84 : decode cX6_offerDrawn 84 = .ok (.istore 4, 2) := by decide +kernel
theorem dX6_offerDrawn_86 : decode cX6_offerDrawn 86 = .ok (.iload 4, 2) := by decide +kernel
theorem dX6_offerDrawn_88 : decode cX6_offerDrawn 88 = .ok (.bipush 8, 2) := by decide +kernel
theorem dX6_offerDrawn_90 : decode cX6_offerDrawn 90 = .ok (.iushr, 1) := by decide +kernel
theorem dX6_offerDrawn_91 : decode cX6_offerDrawn 91 = .ok (.istore 6, 2) := by decide +kernel
theorem dX6_offerDrawn_93 : decode cX6_offerDrawn 93 = .ok (.aload_n 0, 1) := by decide +kernel
theorem dX6_offerDrawn_94 : decode cX6_offerDrawn 94 = .ok (.iload_n 1, 1) := by decide +kernel
theorem dX6_offerDrawn_95 : decode cX6_offerDrawn 95 = .ok (.iload 6, 2) := by decide +kernel
theorem dX6_offerDrawn_97 : decode cX6_offerDrawn 97 = .ok (.bipush 100, 2) := by decide +kernel
theorem dX6_offerDrawn_99 : decode cX6_offerDrawn 99 = .ok (.irem, 1) := by decide +kernel
theorem dX6_offerDrawn_100 : decode cX6_offerDrawn 100 = .ok (.iload 6, 2) := by decide +kernel
theorem dX6_offerDrawn_102 : decode cX6_offerDrawn 102 = .ok (.bipush 100, 2) := by decide +kernel
theorem dX6_offerDrawn_104 : decode cX6_offerDrawn 104 = .ok (.idiv, 1) := by decide +kernel
theorem dX6_offerDrawn_105 : decode cX6_offerDrawn 105 = .ok (.iconst 4, 1) := by decide +kernel
theorem dX6_offerDrawn_106 : decode cX6_offerDrawn 106 = .ok (.irem, 1) := by decide +kernel
theorem dX6_offerDrawn_107 : decode cX6_offerDrawn 107 = .ok (.iload 6, 2) := by decide +kernel
theorem dX6_offerDrawn_109 : decode cX6_offerDrawn 109 = .ok (.sipush 400, 3) := by decide +kernel
theorem dX6_offerDrawn_112 : decode cX6_offerDrawn 112 = .ok (.idiv, 1) := by decide +kernel
theorem dX6_offerDrawn_113 : decode cX6_offerDrawn 113 = .ok (.bipush 99, 2) := by decide +kernel
theorem dX6_offerDrawn_115 : decode cX6_offerDrawn 115 = .ok (.irem, 1) := by decide +kernel
theorem dX6_offerDrawn_116 : decode cX6_offerDrawn 116 = .ok (.iconst 1, 1) := by decide +kernel
theorem dX6_offerDrawn_117 : decode cX6_offerDrawn 117 = .ok (.iadd, 1) := by decide +kernel
theorem dX6_offerDrawn_118 : decode cX6_offerDrawn 118 = .ok (.iload 6, 2) := by decide +kernel
theorem dX6_offerDrawn_120 : decode cX6_offerDrawn 120 = .ok (.sipush 1999, 3) := by decide +kernel
theorem dX6_offerDrawn_123 : decode cX6_offerDrawn 123 = .ok (.irem, 1) := by decide +kernel
theorem dX6_offerDrawn_124 : decode cX6_offerDrawn 124 = .ok (.sipush 999, 3) := by decide +kernel
theorem dX6_offerDrawn_127 : decode cX6_offerDrawn 127 = .ok (.isub, 1) := by decide +kernel
theorem dX6_offerDrawn_128 : decode cX6_offerDrawn 128 = .ok (.invokevirtual 131, 3) := by decide +kernel
theorem dX6_offerDrawn_131 : decode cX6_offerDrawn 131 = .ok (.pop, 1) := by decide +kernel
theorem dX6_offerDrawn_132 : decode cX6_offerDrawn 132 = .ok (.iinc 5 1, 3) := by decide +kernel
theorem dX6_offerDrawn_135 : decode cX6_offerDrawn 135 = .ok (.goto (-66), 3) := by decide +kernel
theorem dX6_offerDrawn_138 : decode cX6_offerDrawn 138 = .ok (.aload_n 0, 1) := by decide +kernel
theorem dX6_offerDrawn_139 : decode cX6_offerDrawn 139 = .ok (.iload_n 1, 1) := by decide +kernel
theorem dX6_offerDrawn_140 : decode cX6_offerDrawn 140 = .ok (.invokevirtual 92, 3) := by decide +kernel
theorem dX6_offerDrawn_143 : decode cX6_offerDrawn 143 = .ok (.ireturn, 1) := by decide +kernel
theorem dX6_mixOf_0 : decode cX6_mixOf 0 = .ok (.iload_n 0, 1) := by decide +kernel
theorem dX6_mixOf_1 : decode cX6_mixOf 1 = .ok (.iload_n 1, 1) := by decide +kernel
theorem dX6_mixOf_2 : decode cX6_mixOf 2 = .ok (.ldc 138, 2) := by decide +kernel
theorem dX6_mixOf_4 : decode cX6_mixOf 4 = .ok (.imul, 1) := by decide +kernel
theorem dX6_mixOf_5 : decode cX6_mixOf 5 = .ok (.ixor, 1) := by decide +kernel
theorem dX6_mixOf_6 : decode cX6_mixOf 6 = .ok (.istore_n 2, 1) := by decide +kernel
theorem dX6_mixOf_7 : decode cX6_mixOf 7 = .ok (.iload_n 2, 1) := by decide +kernel
theorem dX6_mixOf_8 : decode cX6_mixOf 8 = .ok (.iload_n 2, 1) := by decide +kernel
theorem dX6_mixOf_9 : decode cX6_mixOf 9 = .ok (.bipush 16, 2) := by decide +kernel
theorem dX6_mixOf_11 : decode cX6_mixOf 11 = .ok (.iushr, 1) := by decide +kernel
theorem dX6_mixOf_12 : decode cX6_mixOf 12 = .ok (.ixor, 1) := by decide +kernel
theorem dX6_mixOf_13 : decode cX6_mixOf 13 = .ok (.istore_n 2, 1) := by decide +kernel
theorem dX6_mixOf_14 : decode cX6_mixOf 14 = .ok (.iload_n 2, 1) := by decide +kernel
theorem dX6_mixOf_15 : decode cX6_mixOf 15 = .ok (.ldc 139, 2) := by decide +kernel
theorem dX6_mixOf_17 : decode cX6_mixOf 17 = .ok (.imul, 1) := by decide +kernel
theorem dX6_mixOf_18 : decode cX6_mixOf 18 = .ok (.istore_n 2, 1) := by decide +kernel
theorem dX6_mixOf_19 : decode cX6_mixOf 19 = .ok (.iload_n 2, 1) := by decide +kernel
theorem dX6_mixOf_20 : decode cX6_mixOf 20 = .ok (.iload_n 2, 1) := by decide +kernel
theorem dX6_mixOf_21 : decode cX6_mixOf 21 = .ok (.bipush 13, 2) := by decide +kernel
theorem dX6_mixOf_23 : decode cX6_mixOf 23 = .ok (.iushr, 1) := by decide +kernel
theorem dX6_mixOf_24 : decode cX6_mixOf 24 = .ok (.ixor, 1) := by decide +kernel
theorem dX6_mixOf_25 : decode cX6_mixOf 25 = .ok (.istore_n 2, 1) := by decide +kernel
theorem dX6_mixOf_26 : decode cX6_mixOf 26 = .ok (.iload_n 2, 1) := by decide +kernel
theorem dX6_mixOf_27 : decode cX6_mixOf 27 = .ok (.ldc 140, 2) := by decide +kernel
theorem dX6_mixOf_29 : decode cX6_mixOf 29 = .ok (.imul, 1) := by decide +kernel
theorem dX6_mixOf_30 : decode cX6_mixOf 30 = .ok (.istore_n 2, 1) := by decide +kernel
theorem dX6_mixOf_31 : decode cX6_mixOf 31 = .ok (.iload_n 2, 1) := by decide +kernel
theorem dX6_mixOf_32 : decode cX6_mixOf 32 = .ok (.iload_n 2, 1) := by decide +kernel
theorem dX6_mixOf_33 : decode cX6_mixOf 33 = .ok (.bipush 16, 2) := by decide +kernel
theorem dX6_mixOf_35 : decode cX6_mixOf 35 = .ok (.iushr, 1) := by decide +kernel
theorem dX6_mixOf_36 : decode cX6_mixOf 36 = .ok (.ixor, 1) := by decide +kernel
theorem dX6_mixOf_37 : decode cX6_mixOf 37 = .ok (.istore_n 2, 1) := by decide +kernel
theorem dX6_mixOf_38 : decode cX6_mixOf 38 = .ok (.iload_n 2, 1) := by decide +kernel
theorem dX6_mixOf_39 : decode cX6_mixOf 39 = .ok (.i2l, 1) := by decide +kernel
theorem dX6_mixOf_40 : decode cX6_mixOf 40 = .ok (.ldc2_w 141, 3) := by decide +kernel
theorem dX6_mixOf_43 : decode cX6_mixOf 43 = .ok (.land, 1) := by decide +kernel
theorem dX6_mixOf_44 : decode cX6_mixOf 44 = .ok (.lconst 1, 1) := by decide +kernel
theorem dX6_mixOf_45 : decode cX6_mixOf 45 = .ok (.ladd, 1) := by decide +kernel
theorem dX6_mixOf_46 : decode cX6_mixOf 46 = .ok (.lreturn, 1) := by decide +kernel
theorem dX6_mixAt_0 : decode cX6_mixAt 0 = .ok (.aload_n 0, 1) := by decide +kernel
theorem dX6_mixAt_1 : decode cX6_mixAt 1 = .ok (.iload_n 1, 1) := by decide +kernel
theorem dX6_mixAt_2 : decode cX6_mixAt 2 = .ok (.iconst 3, 1) := by decide +kernel
theorem dX6_mixAt_3 : decode cX6_mixAt 3 = .ok (.invokevirtual 61, 3) := by decide +kernel
theorem dX6_mixAt_6 : decode cX6_mixAt 6 = .ok (.aload_n 0, 1) := by decide +kernel
theorem dX6_mixAt_7 : decode cX6_mixAt 7 = .ok (.iload_n 1, 1) := by decide +kernel
theorem dX6_mixAt_8 : decode cX6_mixAt 8 = .ok (.iload_n 2, 1) := by decide +kernel
theorem dX6_mixAt_9 : decode cX6_mixAt 9 = .ok (.aload_n 0, 1) := by decide +kernel
theorem dX6_mixAt_10 : decode cX6_mixAt 10 = .ok (.iload_n 1, 1) := by decide +kernel
theorem dX6_mixAt_11 : decode cX6_mixAt 11 = .ok (.iconst 1, 1) := by decide +kernel
theorem dX6_mixAt_12 : decode cX6_mixAt 12 = .ok (.invokevirtual 61, 3) := by decide +kernel
theorem dX6_mixAt_15 : decode cX6_mixAt 15 = .ok (.iconst 3, 1) := by decide +kernel
theorem dX6_mixAt_16 : decode cX6_mixAt 16 = .ok (.if_icmp .ne 7, 3) := by decide +kernel
theorem dX6_mixAt_19 : decode cX6_mixAt 19 = .ok (.iconst 1, 1) := by decide +kernel
theorem dX6_mixAt_20 : decode cX6_mixAt 20 = .ok (.goto 4, 3) := by decide +kernel
theorem dX6_mixAt_23 : decode cX6_mixAt 23 = .ok (.iconst 0, 1) := by decide +kernel
theorem dX6_mixAt_24 : decode cX6_mixAt 24 = .ok (.invokevirtual 115, 3) := by decide +kernel
theorem dX6_mixAt_27 : decode cX6_mixAt 27 = .ok (.invokestatic 143, 3) := by decide +kernel
theorem dX6_mixAt_30 : decode cX6_mixAt 30 = .ok (.lreturn, 1) := by decide +kernel
theorem dX6_isAhead_0 : decode cX6_isAhead 0 = .ok (.aload_n 0, 1) := by decide +kernel
theorem dX6_isAhead_1 : decode cX6_isAhead 1 = .ok (.iload_n 1, 1) := by decide +kernel
theorem dX6_isAhead_2 : decode cX6_isAhead 2 = .ok (.iconst 1, 1) := by decide +kernel
theorem dX6_isAhead_3 : decode cX6_isAhead 3 = .ok (.invokevirtual 61, 3) := by decide +kernel
theorem dX6_isAhead_6 : decode cX6_isAhead 6 = .ok (.iconst 1, 1) := by decide +kernel
theorem dX6_isAhead_7 : decode cX6_isAhead 7 = .ok (.if_icmp .ne 7, 3) := by decide +kernel
theorem dX6_isAhead_10 : decode cX6_isAhead 10 = .ok (.iconst 1, 1) := by decide +kernel
theorem dX6_isAhead_11 : decode cX6_isAhead 11 = .ok (.goto 4, 3) := by decide +kernel
theorem dX6_isAhead_14 : decode cX6_isAhead 14 = .ok (.iconst 0, 1) := by decide +kernel
theorem dX6_isAhead_15 : decode cX6_isAhead 15 = .ok (.istore 4, 2) := by decide +kernel
theorem dX6_isAhead_17 : decode cX6_isAhead 17 = .ok (.aload_n 0, 1) := by decide +kernel
theorem dX6_isAhead_18 : decode cX6_isAhead 18 = .ok (.iload_n 1, 1) := by decide +kernel
theorem dX6_isAhead_19 : decode cX6_isAhead 19 = .ok (.iload_n 2, 1) := by decide +kernel
theorem dX6_isAhead_20 : decode cX6_isAhead 20 = .ok (.invokevirtual 147, 3) := by decide +kernel
theorem dX6_isAhead_23 : decode cX6_isAhead 23 = .ok (.iload 4, 2) := by decide +kernel
theorem dX6_isAhead_25 : decode cX6_isAhead 25 = .ok (.ifCond .eq 13, 3) := by decide +kernel
theorem dX6_isAhead_28 : decode cX6_isAhead 28 = .ok (.aload_n 0, 1) := by decide +kernel
theorem dX6_isAhead_29 : decode cX6_isAhead 29 = .ok (.iload_n 1, 1) := by decide +kernel
theorem dX6_isAhead_30 : decode cX6_isAhead 30 = .ok (.iload_n 3, 1) := by decide +kernel
theorem dX6_isAhead_31 : decode cX6_isAhead 31 = .ok (.iconst 3, 1) := by decide +kernel
theorem dX6_isAhead_32 : decode cX6_isAhead 32 = .ok (.invokevirtual 115, 3) := by decide +kernel
theorem dX6_isAhead_35 : decode cX6_isAhead 35 = .ok (.goto 4, 3) := by decide +kernel
theorem dX6_isAhead_38 : decode cX6_isAhead 38 = .ok (.iconst 1, 1) := by decide +kernel
theorem dX6_isAhead_39 : decode cX6_isAhead 39 = .ok (.i2l, 1) := by decide +kernel
theorem dX6_isAhead_40 : decode cX6_isAhead 40 = .ok (.lmul, 1) := by decide +kernel
theorem dX6_isAhead_41 : decode cX6_isAhead 41 = .ok (.lstore 5, 2) := by decide +kernel
theorem dX6_isAhead_43 : decode cX6_isAhead 43 = .ok (.aload_n 0, 1) := by decide +kernel
theorem dX6_isAhead_44 : decode cX6_isAhead 44 = .ok (.iload_n 1, 1) := by decide +kernel
theorem dX6_isAhead_45 : decode cX6_isAhead 45 = .ok (.iload_n 3, 1) := by decide +kernel
theorem dX6_isAhead_46 : decode cX6_isAhead 46 = .ok (.invokevirtual 147, 3) := by decide +kernel
theorem dX6_isAhead_49 : decode cX6_isAhead 49 = .ok (.iload 4, 2) := by decide +kernel
theorem dX6_isAhead_51 : decode cX6_isAhead 51 = .ok (.ifCond .eq 13, 3) := by decide +kernel
theorem dX6_isAhead_54 : decode cX6_isAhead 54 = .ok (.aload_n 0, 1) := by decide +kernel
theorem dX6_isAhead_55 : decode cX6_isAhead 55 = .ok (.iload_n 1, 1) := by decide +kernel
theorem dX6_isAhead_56 : decode cX6_isAhead 56 = .ok (.iload_n 2, 1) := by decide +kernel
theorem dX6_isAhead_57 : decode cX6_isAhead 57 = .ok (.iconst 3, 1) := by decide +kernel
theorem dX6_isAhead_58 : decode cX6_isAhead 58 = .ok (.invokevirtual 115, 3) := by decide +kernel
theorem dX6_isAhead_61 : decode cX6_isAhead 61 = .ok (.goto 4, 3) := by decide +kernel
theorem dX6_isAhead_64 : decode cX6_isAhead 64 = .ok (.iconst 1, 1) := by decide +kernel
theorem dX6_isAhead_65 : decode cX6_isAhead 65 = .ok (.i2l, 1) := by decide +kernel
theorem dX6_isAhead_66 : decode cX6_isAhead 66 = .ok (.lmul, 1) := by decide +kernel
theorem dX6_isAhead_67 : decode cX6_isAhead 67 = .ok (.lstore 7, 2) := by decide +kernel
theorem dX6_isAhead_69 : decode cX6_isAhead 69 = .ok (.lload 5, 2) := by decide +kernel
theorem dX6_isAhead_71 : decode cX6_isAhead 71 = .ok (.lload 7, 2) := by decide +kernel
theorem dX6_isAhead_73 : decode cX6_isAhead 73 = .ok (.lcmp, 1) := by decide +kernel
theorem dX6_isAhead_74 : decode cX6_isAhead 74 = .ok (.ifCond .eq 19, 3) := by decide +kernel
theorem dX6_isAhead_77 : decode cX6_isAhead 77 = .ok (.lload 5, 2) := by decide +kernel
theorem dX6_isAhead_79 : decode cX6_isAhead 79 = .ok (.lload 7, 2) := by decide +kernel
theorem dX6_isAhead_81 : decode cX6_isAhead 81 = .ok (.lcmp, 1) := by decide +kernel
theorem dX6_isAhead_82 : decode cX6_isAhead 82 = .ok (.ifCond .ge 7, 3) := by decide +kernel
theorem dX6_isAhead_85 : decode cX6_isAhead 85 = .ok (.iconst 1, 1) := by decide +kernel
theorem dX6_isAhead_86 : decode cX6_isAhead 86 = .ok (.goto 17, 3) := by decide +kernel
theorem dX6_isAhead_89 : decode cX6_isAhead 89 = .ok (.iconst 0, 1) := by decide +kernel
theorem dX6_isAhead_90 : decode cX6_isAhead 90 = .ok (.goto 13, 3) := by decide +kernel
theorem dX6_isAhead_93 : decode cX6_isAhead 93 = .ok (.iload_n 2, 1) := by decide +kernel
theorem dX6_isAhead_94 : decode cX6_isAhead 94 = .ok (.iload_n 3, 1) := by decide +kernel
theorem dX6_isAhead_95 : decode cX6_isAhead 95 = .ok (.if_icmp .ge 7, 3) := by decide +kernel
theorem dX6_isAhead_98 : decode cX6_isAhead 98 = .ok (.iconst 1, 1) := by decide +kernel
theorem dX6_isAhead_99 : decode cX6_isAhead 99 = .ok (.goto 4, 3) := by decide +kernel
theorem dX6_isAhead_102 : decode cX6_isAhead 102 = .ok (.iconst 0, 1) := by decide +kernel
theorem dX6_isAhead_103 : decode cX6_isAhead 103 = .ok (.ireturn, 1) := by decide +kernel
theorem dX6_isCandidate_0 : decode cX6_isCandidate 0 = .ok (.aload_n 0, 1) := by decide +kernel
theorem dX6_isCandidate_1 : decode cX6_isCandidate 1 = .ok (.iload_n 1, 1) := by decide +kernel
theorem dX6_isCandidate_2 : decode cX6_isCandidate 2 = .ok (.iconst 1, 1) := by decide +kernel
theorem dX6_isCandidate_3 : decode cX6_isCandidate 3 = .ok (.invokevirtual 61, 3) := by decide +kernel
theorem dX6_isCandidate_6 : decode cX6_isCandidate 6 = .ok (.iconst 3, 1) := by decide +kernel
theorem dX6_isCandidate_7 : decode cX6_isCandidate 7 = .ok (.if_icmp .eq 5, 3) := by decide +kernel
theorem dX6_isCandidate_10 : decode cX6_isCandidate 10 = .ok (.iconst 1, 1) := by decide +kernel
theorem dX6_isCandidate_11 : decode cX6_isCandidate 11 = .ok (.ireturn, 1) := by decide +kernel
theorem dX6_isCandidate_12 : decode cX6_isCandidate 12 = .ok (.iconst 0, 1) := by decide +kernel
theorem dX6_isCandidate_13 : decode cX6_isCandidate 13 = .ok (.istore_n 3, 1) := by decide +kernel
theorem dX6_isCandidate_14 : decode cX6_isCandidate 14 = .ok (.iload_n 3, 1) := by decide +kernel
theorem dX6_isCandidate_15 : decode cX6_isCandidate 15 = .ok (.iload_n 2, 1) := by decide +kernel
theorem dX6_isCandidate_16 : decode cX6_isCandidate 16 = .ok (.if_icmp .ge 28, 3) := by decide +kernel
theorem dX6_isCandidate_19 : decode cX6_isCandidate 19 = .ok (.aload_n 0, 1) := by decide +kernel
theorem dX6_isCandidate_20 : decode cX6_isCandidate 20 = .ok (.iload_n 1, 1) := by decide +kernel
theorem dX6_isCandidate_21 : decode cX6_isCandidate 21 = .ok (.iload_n 3, 1) := by decide +kernel
theorem dX6_isCandidate_22 : decode cX6_isCandidate 22 = .ok (.iconst 1, 1) := by decide +kernel
theorem dX6_isCandidate_23 : decode cX6_isCandidate 23 = .ok (.invokevirtual 115, 3) := by decide +kernel
theorem dX6_isCandidate_26 : decode cX6_isCandidate 26 = .ok (.aload_n 0, 1) := by decide +kernel
theorem dX6_isCandidate_27 : decode cX6_isCandidate 27 = .ok (.iload_n 1, 1) := by decide +kernel
theorem dX6_isCandidate_28 : decode cX6_isCandidate 28 = .ok (.iload_n 2, 1) := by decide +kernel
theorem dX6_isCandidate_29 : decode cX6_isCandidate 29 = .ok (.iconst 1, 1) := by decide +kernel
theorem dX6_isCandidate_30 : decode cX6_isCandidate 30 = .ok (.invokevirtual 115, 3) := by decide +kernel
theorem dX6_isCandidate_33 : decode cX6_isCandidate 33 = .ok (.if_icmp .ne 5, 3) := by decide +kernel
theorem dX6_isCandidate_36 : decode cX6_isCandidate 36 = .ok (.iconst 0, 1) := by decide +kernel
theorem dX6_isCandidate_37 : decode cX6_isCandidate 37 = .ok (.ireturn, 1) := by decide +kernel
theorem dX6_isCandidate_38 : decode cX6_isCandidate 38 = .ok (.iinc 3 1, 3) := by decide +kernel
theorem dX6_isCandidate_41 : decode cX6_isCandidate 41 = .ok (.goto (-27), 3) := by decide +kernel
theorem dX6_isCandidate_44 : decode cX6_isCandidate 44 = .ok (.iconst 1, 1) := by decide +kernel
theorem dX6_isCandidate_45 : decode cX6_isCandidate 45 = .ok (.ireturn, 1) := by decide +kernel
theorem dX6_findCandidates_0 : decode cX6_findCandidates 0 = .ok (.aload_n 0, 1) := by decide +kernel
theorem dX6_findCandidates_1 : decode cX6_findCandidates 1 = .ok (.iconst 0, 1) := by decide +kernel
theorem dX6_findCandidates_2 : decode cX6_findCandidates 2 = .ok (.putfield 150, 3) := by decide +kernel
theorem dX6_findCandidates_5 : decode cX6_findCandidates 5 = .ok (.iconst 0, 1) := by decide +kernel
theorem dX6_findCandidates_6 : decode cX6_findCandidates 6 = .ok (.istore_n 2, 1) := by decide +kernel
theorem dX6_findCandidates_7 : decode cX6_findCandidates 7 = .ok (.iload_n 2, 1) := by decide +kernel
theorem dX6_findCandidates_8 : decode cX6_findCandidates 8 = .ok (.aload_n 0, 1) := by decide +kernel
theorem dX6_findCandidates_9 : decode cX6_findCandidates 9 = .ok (.iload_n 1, 1) := by decide +kernel
theorem dX6_findCandidates_10 : decode cX6_findCandidates 10 = .ok (.invokevirtual 92, 3) := by decide +kernel
theorem dX6_findCandidates_13 : decode cX6_findCandidates 13 = .ok (.if_icmp .ge 84, 3) := by decide +kernel
theorem dX6_findCandidates_16 : decode cX6_findCandidates 16 = .ok (.aload_n 0, 1) := by decide +kernel
theorem dX6_findCandidates_17 : decode cX6_findCandidates 17 = .ok (.iload_n 1, 1) := by decide +kernel
theorem dX6_findCandidates_18 : decode cX6_findCandidates 18 = .ok (.iload_n 2, 1) := by decide +kernel
theorem dX6_findCandidates_19 : decode cX6_findCandidates 19 = .ok (.invokevirtual 153, 3) := by decide +kernel
theorem dX6_findCandidates_22 : decode cX6_findCandidates 22 = .ok (.ifCond .ne 6, 3) := by decide +kernel
theorem dX6_findCandidates_25 : decode cX6_findCandidates 25 = .ok (.goto 66, 3) := by decide +kernel
theorem dX6_findCandidates_28 : decode cX6_findCandidates 28 = .ok (.aload_n 0, 1) := by decide +kernel
theorem dX6_findCandidates_29 : decode cX6_findCandidates 29 = .ok (.getfield 150, 3) := by decide +kernel
theorem dX6_findCandidates_32 : decode cX6_findCandidates 32 = .ok (.istore_n 3, 1) := by decide +kernel
theorem dX6_findCandidates_33 : decode cX6_findCandidates 33 = .ok (.iload_n 3, 1) := by decide +kernel
theorem dX6_findCandidates_34 : decode cX6_findCandidates 34 = .ok (.ifCond .le 40, 3) := by decide +kernel
theorem dX6_findCandidates_37 : decode cX6_findCandidates 37 = .ok (.aload_n 0, 1) := by decide +kernel
theorem dX6_findCandidates_38 : decode cX6_findCandidates 38 = .ok (.iload_n 1, 1) := by decide +kernel
theorem dX6_findCandidates_39 : decode cX6_findCandidates 39 = .ok (.iload_n 2, 1) := by decide +kernel
theorem dX6_findCandidates_40 : decode cX6_findCandidates 40 = .ok (.aload_n 0, 1) := by decide +kernel
theorem dX6_findCandidates_41 : decode cX6_findCandidates 41 = .ok (.getfield 13, 3) := by decide +kernel
theorem dX6_findCandidates_44 : decode cX6_findCandidates 44 = .ok (.iload_n 3, 1) := by decide +kernel
theorem dX6_findCandidates_45 : decode cX6_findCandidates 45 = .ok (.iconst 1, 1) := by decide +kernel
theorem dX6_findCandidates_46 : decode cX6_findCandidates 46 = .ok (.isub, 1) := by decide +kernel
theorem dX6_findCandidates_47 : decode cX6_findCandidates 47 = .ok (.iaload, 1) := by decide +kernel
theorem dX6_findCandidates_48 : decode cX6_findCandidates 48 = .ok (.invokevirtual 156, 3) := by decide +kernel
theorem dX6_findCandidates_51 : decode cX6_findCandidates 51 = .ok (.ifCond .eq 23, 3) := by decide +kernel
theorem dX6_findCandidates_54 : decode cX6_findCandidates 54 = .ok (.aload_n 0, 1) := by decide +kernel
theorem dX6_findCandidates_55 : decode cX6_findCandidates 55 = .ok (.getfield 13, 3) := by decide +kernel
theorem dX6_findCandidates_58 : decode cX6_findCandidates 58 = .ok (.iload_n 3, 1) := by decide +kernel
theorem dX6_findCandidates_59 : decode cX6_findCandidates 59 = .ok (.aload_n 0, 1) := by decide +kernel
theorem dX6_findCandidates_60 : decode cX6_findCandidates 60 = .ok (.getfield 13, 3) := by decide +kernel
theorem dX6_findCandidates_63 : decode cX6_findCandidates 63 = .ok (.iload_n 3, 1) := by decide +kernel
theorem dX6_findCandidates_64 : decode cX6_findCandidates 64 = .ok (.iconst 1, 1) := by decide +kernel
theorem dX6_findCandidates_65 : decode cX6_findCandidates 65 = .ok (.isub, 1) := by decide +kernel
theorem dX6_findCandidates_66 : decode cX6_findCandidates 66 = .ok (.iaload, 1) := by decide +kernel
theorem dX6_findCandidates_67 : decode cX6_findCandidates 67 = .ok (.iastore, 1) := by decide +kernel
theorem dX6_findCandidates_68 : decode cX6_findCandidates 68 = .ok (.iinc 3 (-1), 3) := by decide +kernel
theorem dX6_findCandidates_71 : decode cX6_findCandidates 71 = .ok (.goto (-38), 3) := by decide +kernel
theorem dX6_findCandidates_74 : decode cX6_findCandidates 74 = .ok (.aload_n 0, 1) := by decide +kernel
theorem dX6_findCandidates_75 : decode cX6_findCandidates 75 = .ok (.getfield 13, 3) := by decide +kernel
theorem dX6_findCandidates_78 : decode cX6_findCandidates 78 = .ok (.iload_n 3, 1) := by decide +kernel
theorem dX6_findCandidates_79 : decode cX6_findCandidates 79 = .ok (.iload_n 2, 1) := by decide +kernel
theorem dX6_findCandidates_80 : decode cX6_findCandidates 80 = .ok (.iastore, 1) := by decide +kernel
theorem dX6_findCandidates_81 : decode cX6_findCandidates 81 = .ok (.aload_n 0, 1) := by decide +kernel
theorem dX6_findCandidates_82 : decode cX6_findCandidates 82 = .ok (.dup, 1) := by decide +kernel
theorem dX6_findCandidates_83 : decode cX6_findCandidates 83 = .ok (.getfield 150, 3) := by decide +kernel
theorem dX6_findCandidates_86 : decode cX6_findCandidates 86 = .ok (.iconst 1, 1) := by decide +kernel
theorem dX6_findCandidates_87 : decode cX6_findCandidates 87 = .ok (.iadd, 1) := by decide +kernel
theorem dX6_findCandidates_88 : decode cX6_findCandidates 88 = .ok (.putfield 150, 3) := by decide +kernel
theorem dX6_findCandidates_91 : decode cX6_findCandidates 91 = .ok (.iinc 2 1, 3) := by decide +kernel
theorem dX6_findCandidates_94 : decode cX6_findCandidates 94 = .ok (.goto (-87), 3) := by decide +kernel
theorem dX6_findCandidates_97 : decode cX6_findCandidates 97 = .ok (.return_, 1) := by decide +kernel
theorem dX6_samples_0 : decode cX6_samples 0 = .ok (.iconst 0, 1) := by decide +kernel
theorem dX6_samples_1 : decode cX6_samples 1 = .ok (.istore 4, 2) := by decide +kernel
theorem dX6_samples_3 : decode cX6_samples 3 = .ok (.iconst 0, 1) := by decide +kernel
theorem dX6_samples_4 : decode cX6_samples 4 = .ok (.istore 5, 2) := by decide +kernel
theorem dX6_samples_6 : decode cX6_samples 6 = .ok (.iload 5, 2) := by decide +kernel
theorem dX6_samples_8 : decode cX6_samples 8 = .ok (.aload_n 0, 1) := by decide +kernel
theorem dX6_samples_9 : decode cX6_samples 9 = .ok (.getfield 150, 3) := by decide +kernel
theorem dX6_samples_12 : decode cX6_samples 12 = .ok (.if_icmp .ge 84, 3) := by decide +kernel
theorem dX6_samples_15 : decode cX6_samples 15 = .ok (.iload 4, 2) := by decide +kernel
theorem dX6_samples_17 : decode cX6_samples 17 = .ok (.iload_n 3, 1) := by decide +kernel
theorem dX6_samples_18 : decode cX6_samples 18 = .ok (.if_icmp .ge 78, 3) := by decide +kernel
theorem dX6_samples_21 : decode cX6_samples 21 = .ok (.iload_n 2, 1) := by decide +kernel
theorem dX6_samples_22 : decode cX6_samples 22 = .ok (.ifCond .lt 23, 3) := by decide +kernel
theorem dX6_samples_25 : decode cX6_samples 25 = .ok (.aload_n 0, 1) := by decide +kernel
theorem dX6_samples_26 : decode cX6_samples 26 = .ok (.iload_n 1, 1) := by decide +kernel
theorem dX6_samples_27 : decode cX6_samples 27 = .ok (.aload_n 0, 1) := by decide +kernel
theorem dX6_samples_28 : decode cX6_samples 28 = .ok (.getfield 13, 3) := by decide +kernel
theorem dX6_samples_31 : decode cX6_samples 31 = .ok (.iload 5, 2) := by decide +kernel
theorem dX6_samples_33 : decode cX6_samples 33 = .ok (.iaload, 1) := by decide +kernel
theorem dX6_samples_34 : decode cX6_samples 34 = .ok (.iconst 2, 1) := by decide +kernel
theorem dX6_samples_35 : decode cX6_samples 35 = .ok (.invokevirtual 115, 3) := by decide +kernel
theorem dX6_samples_38 : decode cX6_samples 38 = .ok (.iload_n 2, 1) := by decide +kernel
theorem dX6_samples_39 : decode cX6_samples 39 = .ok (.if_icmp .eq 6, 3) := by decide +kernel
theorem dX6_samples_42 : decode cX6_samples 42 = .ok (.goto 48, 3) := by decide +kernel
theorem dX6_samples_45 : decode cX6_samples 45 = .ok (.aload_n 0, 1) := by decide +kernel
theorem dX6_samples_46 : decode cX6_samples 46 = .ok (.getfield 19, 3) := by decide +kernel
theorem dX6_samples_49 : decode cX6_samples 49 = .ok (.aload_n 0, 1) := by decide +kernel
theorem dX6_samples_50 : decode cX6_samples 50 = .ok (.getfield 13, 3) := by decide +kernel
theorem dX6_samples_53 : decode cX6_samples 53 = .ok (.iload 5, 2) := by decide +kernel
theorem dX6_samples_55 : decode cX6_samples 55 = .ok (.iaload, 1) := by decide +kernel
theorem dX6_samples_56 : decode cX6_samples 56 = .ok (.aload_n 0, 1) := by decide +kernel
theorem dX6_samples_57 : decode cX6_samples 57 = .ok (.getfield 160, 3) := by decide +kernel
theorem dX6_samples_60 : decode cX6_samples 60 = .ok (.iastore, 1) := by decide +kernel
theorem dX6_samples_61 : decode cX6_samples 61 = .ok (.aload_n 0, 1) := by decide +kernel
theorem dX6_samples_62 : decode cX6_samples 62 = .ok (.getfield 16, 3) := by decide +kernel
theorem dX6_samples_65 : decode cX6_samples 65 = .ok (.aload_n 0, 1) := by decide +kernel
theorem dX6_samples_66 : decode cX6_samples 66 = .ok (.getfield 160, 3) := by decide +kernel
theorem dX6_samples_69 : decode cX6_samples 69 = .ok (.aload_n 0, 1) := by decide +kernel
theorem dX6_samples_70 : decode cX6_samples 70 = .ok (.getfield 13, 3) := by decide +kernel
theorem dX6_samples_73 : decode cX6_samples 73 = .ok (.iload 5, 2) := by decide +kernel
theorem dX6_samples_75 : decode cX6_samples 75 = .ok (.iaload, 1) := by decide +kernel
theorem dX6_samples_76 : decode cX6_samples 76 = .ok (.iastore, 1) := by decide +kernel
theorem dX6_samples_77 : decode cX6_samples 77 = .ok (.aload_n 0, 1) := by decide +kernel
theorem dX6_samples_78 : decode cX6_samples 78 = .ok (.dup, 1) := by decide +kernel
theorem dX6_samples_79 : decode cX6_samples 79 = .ok (.getfield 160, 3) := by decide +kernel
theorem dX6_samples_82 : decode cX6_samples 82 = .ok (.iconst 1, 1) := by decide +kernel
theorem dX6_samples_83 : decode cX6_samples 83 = .ok (.iadd, 1) := by decide +kernel
theorem dX6_samples_84 : decode cX6_samples 84 = .ok (.putfield 160, 3) := by decide +kernel
theorem dX6_samples_87 : decode cX6_samples 87 = .ok (.iinc 4 1, 3) := by decide +kernel
theorem dX6_samples_90 : decode cX6_samples 90 = .ok (.iinc 5 1, 3) := by decide +kernel
theorem dX6_samples_93 : decode cX6_samples 93 = .ok (.goto (-87), 3) := by decide +kernel
theorem dX6_samples_96 : decode cX6_samples 96 = .ok (.return_, 1) := by decide +kernel
theorem dX6_finds_0 : decode cX6_finds 0 = .ok (.aload_n 0, 1) := by decide +kernel
theorem dX6_finds_1 : decode cX6_finds 1 = .ok (.iload_n 1, 1) := by decide +kernel
theorem dX6_finds_2 : decode cX6_finds 2 = .ok (.invokevirtual 163, 3) := by decide +kernel
theorem dX6_finds_5 : decode cX6_finds 5 = .ok (.iconst 0, 1) := by decide +kernel
theorem dX6_finds_6 : decode cX6_finds 6 = .ok (.istore_n 2, 1) := by decide +kernel
theorem dX6_finds_7 : decode cX6_finds 7 = .ok (.iload_n 2, 1) := by decide +kernel
theorem dX6_finds_8 : decode cX6_finds 8 = .ok (.bipush 60, 2) := by decide +kernel
theorem dX6_finds_10 : decode cX6_finds 10 = .ok (.if_icmp .ge 16, 3) := by decide +kernel
theorem dX6_finds_13 : decode cX6_finds 13 = .ok (.aload_n 0, 1) := by decide +kernel
theorem dX6_finds_14 : decode cX6_finds 14 = .ok (.getfield 19, 3) := by decide +kernel
theorem dX6_finds_17 : decode cX6_finds 17 = .ok (.iload_n 2, 1) := by decide +kernel
theorem dX6_finds_18 : decode cX6_finds 18 = .ok (.iconst (-1), 1) := by decide +kernel
theorem dX6_finds_19 : decode cX6_finds 19 = .ok (.iastore, 1) := by decide +kernel
theorem dX6_finds_20 : decode cX6_finds 20 = .ok (.iinc 2 1, 3) := by decide +kernel
theorem dX6_finds_23 : decode cX6_finds 23 = .ok (.goto (-16), 3) := by decide +kernel
theorem dX6_finds_26 : decode cX6_finds 26 = .ok (.aload_n 0, 1) := by decide +kernel
theorem dX6_finds_27 : decode cX6_finds 27 = .ok (.iconst 0, 1) := by decide +kernel
theorem dX6_finds_28 : decode cX6_finds 28 = .ok (.putfield 160, 3) := by decide +kernel
theorem dX6_finds_31 : decode cX6_finds 31 = .ok (.aload_n 0, 1) := by decide +kernel
theorem dX6_finds_32 : decode cX6_finds 32 = .ok (.iload_n 1, 1) := by decide +kernel
theorem dX6_finds_33 : decode cX6_finds 33 = .ok (.iconst 1, 1) := by decide +kernel
theorem dX6_finds_34 : decode cX6_finds 34 = .ok (.invokevirtual 61, 3) := by decide +kernel
theorem dX6_finds_37 : decode cX6_finds 37 = .ok (.iconst 2, 1) := by decide +kernel
theorem dX6_finds_38 : decode cX6_finds 38 = .ok (.if_icmp .eq 16, 3) := by decide +kernel
theorem dX6_finds_41 : decode cX6_finds 41 = .ok (.aload_n 0, 1) := by decide +kernel
theorem dX6_finds_42 : decode cX6_finds 42 = .ok (.iload_n 1, 1) := by decide +kernel
theorem dX6_finds_43 : decode cX6_finds 43 = .ok (.iconst (-1), 1) := by decide +kernel
theorem dX6_finds_44 : decode cX6_finds 44 = .ok (.aload_n 0, 1) := by decide +kernel
theorem dX6_finds_45 : decode cX6_finds 45 = .ok (.iload_n 1, 1) := by decide +kernel
theorem dX6_finds_46 : decode cX6_finds 46 = .ok (.iconst 2, 1) := by decide +kernel
theorem dX6_finds_47 : decode cX6_finds 47 = .ok (.invokevirtual 61, 3) := by decide +kernel
theorem dX6_finds_50 : decode cX6_finds 50 = .ok (.invokevirtual 167, 3) := by decide +kernel
theorem dX6_finds_53 : decode cX6_finds 53 = .ok (.return_, 1) := by decide +kernel
theorem dX6_finds_54 : decode cX6_finds 54 = .ok (.iconst 0, 1) := by decide +kernel
theorem dX6_finds_55 : decode cX6_finds 55 = .ok (.istore_n 2, 1) := by decide +kernel
theorem dX6_finds_56 : decode cX6_finds 56 = .ok (.iload_n 2, 1) := by decide +kernel
theorem dX6_finds_57 : decode cX6_finds 57 = .ok (.iconst 4, 1) := by decide +kernel
theorem dX6_finds_58 : decode cX6_finds 58 = .ok (.if_icmp .ge 23, 3) := by decide +kernel
theorem dX6_finds_61 : decode cX6_finds 61 = .ok (.aload_n 0, 1) := by decide +kernel
theorem dX6_finds_62 : decode cX6_finds 62 = .ok (.iload_n 1, 1) := by decide +kernel
theorem dX6_finds_63 : decode cX6_finds 63 = .ok (.iload_n 2, 1) := by decide +kernel
theorem dX6_finds_64 : decode cX6_finds 64 = .ok (.aload_n 0, 1) := by decide +kernel
theorem dX6_finds_65 : decode cX6_finds 65 = .ok (.iload_n 1, 1) := by decide +kernel
theorem dX6_finds_66 : decode cX6_finds 66 = .ok (.iconst 5, 1) := by decide +kernel
theorem dX6_finds_67 : decode cX6_finds 67 = .ok (.iload_n 2, 1) := by decide +kernel
theorem dX6_finds_68 : decode cX6_finds 68 = .ok (.iadd, 1) := by decide +kernel
theorem dX6_finds_69 : decode cX6_finds 69 = .ok (.invokevirtual 61, 3) := by decide +kernel
theorem dX6_finds_72 : decode cX6_finds 72 = .ok (.invokevirtual 167, 3) := by decide +kernel
theorem dX6_finds_75 : decode cX6_finds 75 = .ok (.iinc 2 1, 3) := by decide +kernel
theorem dX6_finds_78 : decode cX6_finds 78 = .ok (.goto (-22), 3) := by decide +kernel
theorem dX6_finds_81 : decode cX6_finds 81 = .ok (.return_, 1) := by decide +kernel
theorem dX6_isComplete_0 : decode cX6_isComplete 0 = .ok (.aload_n 0, 1) := by decide +kernel
theorem dX6_isComplete_1 : decode cX6_isComplete 1 = .ok (.getfield 160, 3) := by decide +kernel
theorem dX6_isComplete_4 : decode cX6_isComplete 4 = .ok (.aload_n 0, 1) := by decide +kernel
theorem dX6_isComplete_5 : decode cX6_isComplete 5 = .ok (.getfield 150, 3) := by decide +kernel
theorem dX6_isComplete_8 : decode cX6_isComplete 8 = .ok (.if_icmp .ne 7, 3) := by decide +kernel
theorem dX6_isComplete_11 : decode cX6_isComplete 11 = .ok (.iconst 1, 1) := by decide +kernel
theorem dX6_isComplete_12 : decode cX6_isComplete 12 = .ok (.goto 4, 3) := by decide +kernel
theorem dX6_isComplete_15 : decode cX6_isComplete 15 = .ok (.iconst 0, 1) := by decide +kernel
theorem dX6_isComplete_16 : decode cX6_isComplete 16 = .ok (.ireturn, 1) := by decide +kernel
theorem dX6_keys_0 : decode cX6_keys 0 = .ok (.iconst 0, 1) := by decide +kernel
theorem dX6_keys_1 : decode cX6_keys 1 = .ok (.istore_n 2, 1) := by decide +kernel
theorem dX6_keys_2 : decode cX6_keys 2 = .ok (.iconst 0, 1) := by decide +kernel
theorem dX6_keys_3 : decode cX6_keys 3 = .ok (.istore_n 3, 1) := by decide +kernel
theorem dX6_keys_4 : decode cX6_keys 4 = .ok (.iload_n 3, 1) := by decide +kernel
theorem dX6_keys_5 : decode cX6_keys 5 = .ok (.aload_n 0, 1) := by decide +kernel
theorem dX6_keys_6 : decode cX6_keys 6 = .ok (.iload_n 1, 1) := by decide +kernel
theorem dX6_keys_7 : decode cX6_keys 7 = .ok (.invokevirtual 92, 3) := by decide +kernel
theorem dX6_keys_10 : decode cX6_keys 10 = .ok (.if_icmp .ge 70, 3) := by decide +kernel
theorem dX6_keys_13 : decode cX6_keys 13 = .ok (.iconst 1, 1) := by decide +kernel
theorem dX6_keys_14 : decode cX6_keys 14 = .ok (.istore 4, 2) := by decide +kernel
theorem dX6_keys_16 : decode cX6_keys 16 = .ok (.iconst 0, 1) := by decide +kernel
theorem dX6_keys_17 : decode cX6_keys 17 = .ok (.istore 5, 2) := by decide +kernel
theorem dX6_keys_19 : decode cX6_keys 19 = .ok (.iload 5, 2) := by decide +kernel
theorem dX6_keys_21 : decode cX6_keys 21 = .ok (.iload_n 3, 1) := by decide +kernel
theorem dX6_keys_22 : decode cX6_keys 22 = .ok (.if_icmp .ge 39, 3) := by decide +kernel
theorem dX6_keys_25 : decode cX6_keys 25 = .ok (.iload 4, 2) := by decide +kernel
theorem dX6_keys_27 : decode cX6_keys 27 = .ok (.ifCond .eq 25, 3) := by decide +kernel
theorem dX6_keys_30 : decode cX6_keys 30 = .ok (.aload_n 0, 1) := by decide +kernel
theorem dX6_keys_31 : decode cX6_keys 31 = .ok (.iload_n 1, 1) := by decide +kernel
theorem dX6_keys_32 : decode cX6_keys 32 = .ok (.iload 5, 2) := by decide +kernel
theorem dX6_keys_34 : decode cX6_keys 34 = .ok (.iconst 1, 1) := by decide +kernel
theorem dX6_keys_35 : decode cX6_keys 35 = .ok (.invokevirtual 115, 3) := by decide +kernel
theorem dX6_keys_38 : decode cX6_keys 38 = .ok (.aload_n 0, 1) := by decide +kernel
theorem dX6_keys_39 : decode cX6_keys 39 = .ok (.iload_n 1, 1) := by decide +kernel
theorem dX6_keys_40 : decode cX6_keys 40 = .ok (.iload_n 3, 1) := by decide +kernel
theorem dX6_keys_41 : decode cX6_keys 41 = .ok (.iconst 1, 1) := by decide +kernel
theorem dX6_keys_42 : decode cX6_keys 42 = .ok (.invokevirtual 115, 3) := by decide +kernel
theorem dX6_keys_45 : decode cX6_keys 45 = .ok (.if_icmp .eq 7, 3) := by decide +kernel
theorem dX6_keys_48 : decode cX6_keys 48 = .ok (.iconst 1, 1) := by decide +kernel
theorem dX6_keys_49 : decode cX6_keys 49 = .ok (.goto 4, 3) := by decide +kernel
theorem dX6_keys_52 : decode cX6_keys 52 = .ok (.iconst 0, 1) := by decide +kernel
theorem dX6_keys_53 : decode cX6_keys 53 = .ok (.istore 4, 2) := by decide +kernel
theorem dX6_keys_55 : decode cX6_keys 55 = .ok (.iinc 5 1, 3) := by decide +kernel
theorem dX6_keys_58 : decode cX6_keys 58 = .ok (.goto (-39), 3) := by decide +kernel
theorem dX6_keys_61 : decode cX6_keys 61 = .ok (.iload_n 2, 1) := by decide +kernel
theorem dX6_keys_62 : decode cX6_keys 62 = .ok (.iload 4, 2) := by decide +kernel
theorem dX6_keys_64 : decode cX6_keys 64 = .ok (.ifCond .eq 7, 3) := by decide +kernel
theorem dX6_keys_67 : decode cX6_keys 67 = .ok (.iconst 1, 1) := by decide +kernel
theorem dX6_keys_68 : decode cX6_keys 68 = .ok (.goto 4, 3) := by decide +kernel
theorem dX6_keys_71 : decode cX6_keys 71 = .ok (.iconst 0, 1) := by decide +kernel
theorem dX6_keys_72 : decode cX6_keys 72 = .ok (.iadd, 1) := by decide +kernel
theorem dX6_keys_73 : decode cX6_keys 73 = .ok (.istore_n 2, 1) := by decide +kernel
theorem dX6_keys_74 : decode cX6_keys 74 = .ok (.iinc 3 1, 3) := by decide +kernel
theorem dX6_keys_77 : decode cX6_keys 77 = .ok (.goto (-73), 3) := by decide +kernel
theorem dX6_keys_80 : decode cX6_keys 80 = .ok (.iload_n 2, 1) := by decide +kernel
theorem dX6_keys_81 : decode cX6_keys 81 = .ok (.ireturn, 1) := by decide +kernel
theorem dX6_summary_0 : decode cX6_summary 0 = .ok (.iload_n 1, 1) := by decide +kernel
theorem dX6_summary_1 : decode cX6_summary 1 = .ok (.invokestatic 96, 3) := by decide +kernel
theorem dX6_summary_4 : decode cX6_summary 4 = .ok (.ifCond .ne 9, 3) := by decide +kernel
theorem dX6_summary_7 : decode cX6_summary 7 = .ok (.aload_n 0, 1) := by decide +kernel
theorem dX6_summary_8 : decode cX6_summary 8 = .ok (.iconst 1, 1) := by decide +kernel
theorem dX6_summary_9 : decode cX6_summary 9 = .ok (.invokevirtual 99, 3) := by decide +kernel
theorem dX6_summary_12 : decode cX6_summary 12 = .ok (.ireturn, 1) := by decide +kernel
theorem dX6_summary_13 : decode cX6_summary 13 = .ok (.iload_n 2, 1) := by decide +kernel
theorem dX6_summary_14 : decode cX6_summary 14 = .ok (.i2l, 1) := by decide +kernel
theorem dX6_summary_15 : decode cX6_summary 15 = .ok (.lconst 0, 1) := by decide +kernel
theorem dX6_summary_16 : decode cX6_summary 16 = .ok (.ldc2_w 170, 3) := by decide +kernel
theorem dX6_summary_19 : decode cX6_summary 19 = .ok (.invokestatic 67, 3) := by decide +kernel
theorem dX6_summary_22 : decode cX6_summary 22 = .ok (.ifCond .ne 9, 3) := by decide +kernel
theorem dX6_summary_25 : decode cX6_summary 25 = .ok (.aload_n 0, 1) := by decide +kernel
theorem dX6_summary_26 : decode cX6_summary 26 = .ok (.iconst 2, 1) := by decide +kernel
theorem dX6_summary_27 : decode cX6_summary 27 = .ok (.invokevirtual 99, 3) := by decide +kernel
theorem dX6_summary_30 : decode cX6_summary 30 = .ok (.ireturn, 1) := by decide +kernel
theorem dX6_summary_31 : decode cX6_summary 31 = .ok (.aload_n 0, 1) := by decide +kernel
theorem dX6_summary_32 : decode cX6_summary 32 = .ok (.iload_n 1, 1) := by decide +kernel
theorem dX6_summary_33 : decode cX6_summary 33 = .ok (.invokevirtual 89, 3) := by decide +kernel
theorem dX6_summary_36 : decode cX6_summary 36 = .ok (.ifCond .ne 9, 3) := by decide +kernel
theorem dX6_summary_39 : decode cX6_summary 39 = .ok (.aload_n 0, 1) := by decide +kernel
theorem dX6_summary_40 : decode cX6_summary 40 = .ok (.iconst 3, 1) := by decide +kernel
theorem dX6_summary_41 : decode cX6_summary 41 = .ok (.invokevirtual 99, 3) := by decide +kernel
theorem dX6_summary_44 : decode cX6_summary 44 = .ok (.ireturn, 1) := by decide +kernel
theorem dX6_summary_45 : decode cX6_summary 45 = .ok (.aload_n 0, 1) := by decide +kernel
theorem dX6_summary_46 : decode cX6_summary 46 = .ok (.iconst 0, 1) := by decide +kernel
theorem dX6_summary_47 : decode cX6_summary 47 = .ok (.putfield 57, 3) := by decide +kernel
theorem dX6_summary_50 : decode cX6_summary 50 = .ok (.aload_n 0, 1) := by decide +kernel
theorem dX6_summary_51 : decode cX6_summary 51 = .ok (.iload_n 1, 1) := by decide +kernel
theorem dX6_summary_52 : decode cX6_summary 52 = .ok (.invokevirtual 172, 3) := by decide +kernel
theorem dX6_summary_55 : decode cX6_summary 55 = .ok (.iload_n 2, 1) := by decide +kernel
theorem dX6_summary_56 : decode cX6_summary 56 = .ok (.tableswitch 96 0 6 #[44, 51, 58, 65, 72, 78, 83], 44) := by decide +kernel
theorem dX6_summary_100 : decode cX6_summary 100 = .ok (.aload_n 0, 1) := by decide +kernel
theorem dX6_summary_101 : decode cX6_summary 101 = .ok (.iload_n 1, 1) := by decide +kernel
theorem dX6_summary_102 : decode cX6_summary 102 = .ok (.iconst 1, 1) := by decide +kernel
theorem dX6_summary_103 : decode cX6_summary 103 = .ok (.invokevirtual 61, 3) := by decide +kernel
theorem dX6_summary_106 : decode cX6_summary 106 = .ok (.ireturn, 1) := by decide +kernel
theorem dX6_summary_107 : decode cX6_summary 107 = .ok (.aload_n 0, 1) := by decide +kernel
theorem dX6_summary_108 : decode cX6_summary 108 = .ok (.iload_n 1, 1) := by decide +kernel
theorem dX6_summary_109 : decode cX6_summary 109 = .ok (.iconst 2, 1) := by decide +kernel
theorem dX6_summary_110 : decode cX6_summary 110 = .ok (.invokevirtual 61, 3) := by decide +kernel
theorem dX6_summary_113 : decode cX6_summary 113 = .ok (.ireturn, 1) := by decide +kernel
theorem dX6_summary_114 : decode cX6_summary 114 = .ok (.aload_n 0, 1) := by decide +kernel
theorem dX6_summary_115 : decode cX6_summary 115 = .ok (.iload_n 1, 1) := by decide +kernel
theorem dX6_summary_116 : decode cX6_summary 116 = .ok (.iconst 3, 1) := by decide +kernel
theorem dX6_summary_117 : decode cX6_summary 117 = .ok (.invokevirtual 61, 3) := by decide +kernel
theorem dX6_summary_120 : decode cX6_summary 120 = .ok (.ireturn, 1) := by decide +kernel
theorem dX6_summary_121 : decode cX6_summary 121 = .ok (.aload_n 0, 1) := by decide +kernel
theorem dX6_summary_122 : decode cX6_summary 122 = .ok (.iload_n 1, 1) := by decide +kernel
theorem dX6_summary_123 : decode cX6_summary 123 = .ok (.iconst 4, 1) := by decide +kernel
theorem dX6_summary_124 : decode cX6_summary 124 = .ok (.invokevirtual 61, 3) := by decide +kernel
theorem dX6_summary_127 : decode cX6_summary 127 = .ok (.ireturn, 1) := by decide +kernel
theorem dX6_summary_128 : decode cX6_summary 128 = .ok (.aload_n 0, 1) := by decide +kernel
theorem dX6_summary_129 : decode cX6_summary 129 = .ok (.iload_n 1, 1) := by decide +kernel
theorem dX6_summary_130 : decode cX6_summary 130 = .ok (.invokevirtual 92, 3) := by decide +kernel
theorem dX6_summary_133 : decode cX6_summary 133 = .ok (.ireturn, 1) := by decide +kernel
theorem dX6_summary_134 : decode cX6_summary 134 = .ok (.aload_n 0, 1) := by decide +kernel
theorem dX6_summary_135 : decode cX6_summary 135 = .ok (.getfield 160, 3) := by decide +kernel
theorem dX6_summary_138 : decode cX6_summary 138 = .ok (.ireturn, 1) := by decide +kernel
theorem dX6_summary_139 : decode cX6_summary 139 = .ok (.aload_n 0, 1) := by decide +kernel
theorem dX6_summary_140 : decode cX6_summary 140 = .ok (.invokevirtual 175, 3) := by decide +kernel
theorem dX6_summary_143 : decode cX6_summary 143 = .ok (.ifCond .eq 7, 3) := by decide +kernel
theorem dX6_summary_146 : decode cX6_summary 146 = .ok (.iconst 1, 1) := by decide +kernel
theorem dX6_summary_147 : decode cX6_summary 147 = .ok (.goto 4, 3) := by decide +kernel
theorem dX6_summary_150 : decode cX6_summary 150 = .ok (.iconst 0, 1) := by decide +kernel
theorem dX6_summary_151 : decode cX6_summary 151 = .ok (.ireturn, 1) := by decide +kernel
theorem dX6_summary_152 : decode cX6_summary 152 = .ok (.aload_n 0, 1) := by decide +kernel
theorem dX6_summary_153 : decode cX6_summary 153 = .ok (.iload_n 1, 1) := by decide +kernel
theorem dX6_summary_154 : decode cX6_summary 154 = .ok (.invokevirtual 179, 3) := by decide +kernel
theorem dX6_summary_157 : decode cX6_summary 157 = .ok (.ireturn, 1) := by decide +kernel
theorem dX6_setQuota_0 : decode cX6_setQuota 0 = .ok (.iload_n 1, 1) := by decide +kernel
theorem dX6_setQuota_1 : decode cX6_setQuota 1 = .ok (.invokestatic 96, 3) := by decide +kernel
theorem dX6_setQuota_4 : decode cX6_setQuota 4 = .ok (.ifCond .eq 10, 3) := by decide +kernel
theorem dX6_setQuota_7 : decode cX6_setQuota 7 = .ok (.iload_n 2, 1) := by decide +kernel
theorem dX6_setQuota_8 : decode cX6_setQuota 8 = .ok (.invokestatic 71, 3) := by decide +kernel
theorem dX6_setQuota_11 : decode cX6_setQuota 11 = .ok (.ifCond .ne 9, 3) := by decide +kernel
theorem dX6_setQuota_14 : decode cX6_setQuota 14 = .ok (.aload_n 0, 1) := by decide +kernel
theorem dX6_setQuota_15 : decode cX6_setQuota 15 = .ok (.iconst 1, 1) := by decide +kernel
theorem dX6_setQuota_16 : decode cX6_setQuota 16 = .ok (.invokevirtual 99, 3) := by decide +kernel
theorem dX6_setQuota_19 : decode cX6_setQuota 19 = .ok (.ireturn, 1) := by decide +kernel
theorem dX6_setQuota_20 : decode cX6_setQuota 20 = .ok (.iload_n 3, 1) := by decide +kernel
theorem dX6_setQuota_21 : decode cX6_setQuota 21 = .ok (.i2l, 1) := by decide +kernel
theorem dX6_setQuota_22 : decode cX6_setQuota 22 = .ok (.lconst 0, 1) := by decide +kernel
theorem dX6_setQuota_23 : decode cX6_setQuota 23 = .ok (.ldc2_w 85, 3) := by decide +kernel
theorem dX6_setQuota_26 : decode cX6_setQuota 26 = .ok (.invokestatic 67, 3) := by decide +kernel
theorem dX6_setQuota_29 : decode cX6_setQuota 29 = .ok (.ifCond .ne 9, 3) := by decide +kernel
theorem dX6_setQuota_32 : decode cX6_setQuota 32 = .ok (.aload_n 0, 1) := by decide +kernel
theorem dX6_setQuota_33 : decode cX6_setQuota 33 = .ok (.iconst 2, 1) := by decide +kernel
theorem dX6_setQuota_34 : decode cX6_setQuota 34 = .ok (.invokevirtual 99, 3) := by decide +kernel
theorem dX6_setQuota_37 : decode cX6_setQuota 37 = .ok (.ireturn, 1) := by decide +kernel
theorem dX6_setQuota_38 : decode cX6_setQuota 38 = .ok (.aload_n 0, 1) := by decide +kernel
theorem dX6_setQuota_39 : decode cX6_setQuota 39 = .ok (.iload_n 1, 1) := by decide +kernel
theorem dX6_setQuota_40 : decode cX6_setQuota 40 = .ok (.invokevirtual 89, 3) := by decide +kernel
theorem dX6_setQuota_43 : decode cX6_setQuota 43 = .ok (.ifCond .ne 9, 3) := by decide +kernel
theorem dX6_setQuota_46 : decode cX6_setQuota 46 = .ok (.aload_n 0, 1) := by decide +kernel
theorem dX6_setQuota_47 : decode cX6_setQuota 47 = .ok (.iconst 3, 1) := by decide +kernel
theorem dX6_setQuota_48 : decode cX6_setQuota 48 = .ok (.invokevirtual 99, 3) := by decide +kernel
theorem dX6_setQuota_51 : decode cX6_setQuota 51 = .ok (.ireturn, 1) := by decide +kernel
theorem dX6_setQuota_52 : decode cX6_setQuota 52 = .ok (.aload_n 0, 1) := by decide +kernel
theorem dX6_setQuota_53 : decode cX6_setQuota 53 = .ok (.iconst 0, 1) := by decide +kernel
theorem dX6_setQuota_54 : decode cX6_setQuota 54 = .ok (.putfield 57, 3) := by decide +kernel
theorem dX6_setQuota_57 : decode cX6_setQuota 57 = .ok (.aload_n 0, 1) := by decide +kernel
theorem dX6_setQuota_58 : decode cX6_setQuota 58 = .ok (.invokevirtual 105, 3) := by decide +kernel
theorem dX6_setQuota_61 : decode cX6_setQuota 61 = .ok (.aload_n 0, 1) := by decide +kernel
theorem dX6_setQuota_62 : decode cX6_setQuota 62 = .ok (.iload_n 1, 1) := by decide +kernel
theorem dX6_setQuota_63 : decode cX6_setQuota 63 = .ok (.iconst 5, 1) := by decide +kernel
theorem dX6_setQuota_64 : decode cX6_setQuota 64 = .ok (.iload_n 2, 1) := by decide +kernel
theorem dX6_setQuota_65 : decode cX6_setQuota 65 = .ok (.iadd, 1) := by decide +kernel
theorem dX6_setQuota_66 : decode cX6_setQuota 66 = .ok (.invokevirtual 61, 3) := by decide +kernel
theorem dX6_setQuota_69 : decode cX6_setQuota 69 = .ok (.istore 4, 2) := by decide +kernel
theorem dX6_setQuota_71 : decode cX6_setQuota 71 = .ok (.aload_n 0, 1) := by decide +kernel
theorem dX6_setQuota_72 : decode cX6_setQuota 72 = .ok (.iload_n 1, 1) := by decide +kernel
theorem dX6_setQuota_73 : decode cX6_setQuota 73 = .ok (.iconst 5, 1) := by decide +kernel
theorem dX6_setQuota_74 : decode cX6_setQuota 74 = .ok (.iload_n 2, 1) := by decide +kernel
theorem dX6_setQuota_75 : decode cX6_setQuota 75 = .ok (.iadd, 1) := by decide +kernel
theorem dX6_setQuota_76 : decode cX6_setQuota 76 = .ok (.iload_n 3, 1) := by decide +kernel
theorem dX6_setQuota_77 : decode cX6_setQuota 77 = .ok (.invokevirtual 79, 3) := by decide +kernel
theorem dX6_setQuota_80 : decode cX6_setQuota 80 = .ok (.iload 4, 2) := by decide +kernel
theorem dX6_setQuota_82 : decode cX6_setQuota 82 = .ok (.ireturn, 1) := by decide +kernel
theorem dX6_allocate_0 : decode cX6_allocate 0 = .ok (.iload_n 1, 1) := by decide +kernel
theorem dX6_allocate_1 : decode cX6_allocate 1 = .ok (.invokestatic 96, 3) := by decide +kernel
theorem dX6_allocate_4 : decode cX6_allocate 4 = .ok (.ifCond .ne 9, 3) := by decide +kernel
theorem dX6_allocate_7 : decode cX6_allocate 7 = .ok (.aload_n 0, 1) := by decide +kernel
theorem dX6_allocate_8 : decode cX6_allocate 8 = .ok (.iconst 1, 1) := by decide +kernel
theorem dX6_allocate_9 : decode cX6_allocate 9 = .ok (.invokevirtual 99, 3) := by decide +kernel
theorem dX6_allocate_12 : decode cX6_allocate 12 = .ok (.ireturn, 1) := by decide +kernel
theorem dX6_allocate_13 : decode cX6_allocate 13 = .ok (.iload_n 2, 1) := by decide +kernel
theorem dX6_allocate_14 : decode cX6_allocate 14 = .ok (.i2l, 1) := by decide +kernel
theorem dX6_allocate_15 : decode cX6_allocate 15 = .ok (.lconst 0, 1) := by decide +kernel
theorem dX6_allocate_16 : decode cX6_allocate 16 = .ok (.ldc2_w 85, 3) := by decide +kernel
theorem dX6_allocate_19 : decode cX6_allocate 19 = .ok (.invokestatic 67, 3) := by decide +kernel
theorem dX6_allocate_22 : decode cX6_allocate 22 = .ok (.ifCond .ne 9, 3) := by decide +kernel
theorem dX6_allocate_25 : decode cX6_allocate 25 = .ok (.aload_n 0, 1) := by decide +kernel
theorem dX6_allocate_26 : decode cX6_allocate 26 = .ok (.iconst 2, 1) := by decide +kernel
theorem dX6_allocate_27 : decode cX6_allocate 27 = .ok (.invokevirtual 99, 3) := by decide +kernel
theorem dX6_allocate_30 : decode cX6_allocate 30 = .ok (.ireturn, 1) := by decide +kernel
theorem dX6_allocate_31 : decode cX6_allocate 31 = .ok (.aload_n 0, 1) := by decide +kernel
theorem dX6_allocate_32 : decode cX6_allocate 32 = .ok (.iload_n 1, 1) := by decide +kernel
theorem dX6_allocate_33 : decode cX6_allocate 33 = .ok (.invokevirtual 89, 3) := by decide +kernel
theorem dX6_allocate_36 : decode cX6_allocate 36 = .ok (.ifCond .ne 9, 3) := by decide +kernel
theorem dX6_allocate_39 : decode cX6_allocate 39 = .ok (.aload_n 0, 1) := by decide +kernel
theorem dX6_allocate_40 : decode cX6_allocate 40 = .ok (.iconst 3, 1) := by decide +kernel
theorem dX6_allocate_41 : decode cX6_allocate 41 = .ok (.invokevirtual 99, 3) := by decide +kernel
theorem dX6_allocate_44 : decode cX6_allocate 44 = .ok (.ireturn, 1) := by decide +kernel
theorem dX6_allocate_45 : decode cX6_allocate 45 = .ok (.aload_n 0, 1) := by decide +kernel
theorem dX6_allocate_46 : decode cX6_allocate 46 = .ok (.iload_n 1, 1) := by decide +kernel
theorem dX6_allocate_47 : decode cX6_allocate 47 = .ok (.invokevirtual 92, 3) := by decide +kernel
theorem dX6_allocate_50 : decode cX6_allocate 50 = .ok (.ifCond .ne 9, 3) := by decide +kernel
theorem dX6_allocate_53 : decode cX6_allocate 53 = .ok (.aload_n 0, 1) := by decide +kernel
theorem dX6_allocate_54 : decode cX6_allocate 54 = .ok (.iconst 4, 1) := by decide +kernel
theorem dX6_allocate_55 : decode cX6_allocate 55 = .ok (.invokevirtual 99, 3) := by decide +kernel
theorem dX6_allocate_58 : decode cX6_allocate 58 = .ok (.ireturn, 1) := by decide +kernel
theorem dX6_allocate_59 : decode cX6_allocate 59 = .ok (.aload_n 0, 1) := by decide +kernel
theorem dX6_allocate_60 : decode cX6_allocate 60 = .ok (.iconst 0, 1) := by decide +kernel
theorem dX6_allocate_61 : decode cX6_allocate 61 = .ok (.putfield 57, 3) := by decide +kernel
theorem dX6_allocate_64 : decode cX6_allocate 64 = .ok (.aload_n 0, 1) := by decide +kernel
theorem dX6_allocate_65 : decode cX6_allocate 65 = .ok (.invokevirtual 105, 3) := by decide +kernel
theorem dX6_allocate_68 : decode cX6_allocate 68 = .ok (.iconst 0, 1) := by decide +kernel
theorem dX6_allocate_69 : decode cX6_allocate 69 = .ok (.istore 4, 2) := by decide +kernel
theorem dX6_allocate_71 : decode cX6_allocate 71 = .ok (.iconst 0, 1) := by decide +kernel
theorem dX6_allocate_72 : decode cX6_allocate 72 = .ok (.istore 5, 2) := by decide +kernel
theorem dX6_allocate_74 : decode cX6_allocate 74 = .ok (.iload 5, 2) := by decide +kernel
theorem dX6_allocate_76 : decode cX6_allocate 76 = .ok (.iconst 4, 1) := by decide +kernel
theorem dX6_allocate_77 : decode cX6_allocate 77 = .ok (.if_icmp .ge 17, 3) := by decide +kernel
theorem dX6_allocate_80 : decode cX6_allocate 80 = .ok (.aload_n 0, 1) := by decide +kernel
theorem dX6_allocate_81 : decode cX6_allocate 81 = .ok (.getfield 22, 3) := by decide +kernel
theorem dX6_allocate_84 : decode cX6_allocate 84 = .ok (.iload 5, 2) := by decide +kernel
theorem dX6_allocate_86 : decode cX6_allocate 86 = .ok (.iconst 0, 1) := by decide +kernel
theorem dX6_allocate_87 : decode cX6_allocate 87 = .ok (.iastore, 1) := by decide +kernel
theorem dX6_allocate_88 : decode cX6_allocate 88 = .ok (.iinc 5 1, 3) := by decide +kernel
theorem dX6_allocate_91 : decode cX6_allocate 91 = .ok (.goto (-17), 3) := by decide +kernel
theorem dX6_allocate_94 : decode cX6_allocate 94 = .ok (.iconst 0, 1) := by decide +kernel
theorem dX6_allocate_95 : decode cX6_allocate 95 = .ok (.istore 5, 2) := by decide +kernel
theorem dX6_allocate_97 : decode cX6_allocate 97 = .ok (.iload 5, 2) := by decide +kernel
theorem dX6_allocate_99 : decode cX6_allocate 99 = .ok (.aload_n 0, 1) := by decide +kernel
theorem dX6_allocate_100 : decode cX6_allocate 100 = .ok (.iload_n 1, 1) := by decide +kernel
theorem dX6_allocate_101 : decode cX6_allocate 101 = .ok (.invokevirtual 92, 3) := by decide +kernel
theorem dX6_allocate_104 : decode cX6_allocate 104 = .ok (.if_icmp .ge 52, 3) := by decide +kernel
theorem dX6_allocate_107 : decode cX6_allocate 107 = .ok (.iload_n 3, 1) := by decide +kernel
theorem dX6_allocate_108 : decode cX6_allocate 108 = .ok (.ifCond .eq 14, 3) := by decide +kernel
theorem dX6_allocate_111 : decode cX6_allocate 111 = .ok (.aload_n 0, 1) := by decide +kernel
theorem dX6_allocate_112 : decode cX6_allocate 112 = .ok (.iload_n 1, 1) := by decide +kernel
theorem dX6_allocate_113 : decode cX6_allocate 113 = .ok (.iload 5, 2) := by decide +kernel
theorem dX6_allocate_115 : decode cX6_allocate 115 = .ok (.iconst 3, 1) := by decide +kernel
theorem dX6_allocate_116 : decode cX6_allocate 116 = .ok (.invokevirtual 115, 3) := by decide +kernel
theorem dX6_allocate_119 : decode cX6_allocate 119 = .ok (.goto 4, 3) := by decide +kernel
theorem dX6_allocate_122 : decode cX6_allocate 122 = .ok (.iconst 1, 1) := by decide +kernel
theorem dX6_allocate_123 : decode cX6_allocate 123 = .ok (.istore 6, 2) := by decide +kernel
theorem dX6_allocate_125 : decode cX6_allocate 125 = .ok (.aload_n 0, 1) := by decide +kernel
theorem dX6_allocate_126 : decode cX6_allocate 126 = .ok (.getfield 22, 3) := by decide +kernel
theorem dX6_allocate_129 : decode cX6_allocate 129 = .ok (.aload_n 0, 1) := by decide +kernel
theorem dX6_allocate_130 : decode cX6_allocate 130 = .ok (.iload_n 1, 1) := by decide +kernel
theorem dX6_allocate_131 : decode cX6_allocate 131 = .ok (.iload 5, 2) := by decide +kernel
theorem dX6_allocate_133 : decode cX6_allocate 133 = .ok (.iconst 2, 1) := by decide +kernel
theorem dX6_allocate_134 : decode cX6_allocate 134 = .ok (.invokevirtual 115, 3) := by decide +kernel
theorem dX6_allocate_137 : decode cX6_allocate 137 = .ok (.dup2, 1) := by decide +kernel
theorem dX6_allocate_138 : decode cX6_allocate 138 = .ok (.iaload, 1) := by decide +kernel
theorem dX6_allocate_139 : decode cX6_allocate 139 = .ok (.iload 6, 2) := by decide +kernel
theorem dX6_allocate_141 : decode cX6_allocate 141 = .ok (.iadd, 1) := by decide +kernel
theorem dX6_allocate_142 : decode cX6_allocate 142 = .ok (.iastore, 1) := by decide +kernel
theorem dX6_allocate_143 : decode cX6_allocate 143 = .ok (.iload 4, 2) := by decide +kernel
theorem dX6_allocate_145 : decode cX6_allocate 145 = .ok (.iload 6, 2) := by decide +kernel
theorem dX6_allocate_147 : decode cX6_allocate 147 = .ok (.iadd, 1) := by decide +kernel
theorem dX6_allocate_148 : decode cX6_allocate 148 = .ok (.istore 4, 2) := by decide +kernel
theorem dX6_allocate_150 : decode cX6_allocate 150 = .ok (.iinc 5 1, 3) := by decide +kernel
theorem dX6_allocate_153 : decode cX6_allocate 153 = .ok (.goto (-56), 3) := by decide +kernel
theorem dX6_allocate_156 : decode cX6_allocate 156 = .ok (.iconst 0, 1) := by decide +kernel
theorem dX6_allocate_157 : decode cX6_allocate 157 = .ok (.istore 5, 2) := by decide +kernel
theorem dX6_allocate_159 : decode cX6_allocate 159 = .ok (.iconst 0, 1) := by decide +kernel
theorem dX6_allocate_160 : decode cX6_allocate 160 = .ok (.istore 6, 2) := by decide +kernel
theorem dX6_allocate_162 : decode cX6_allocate 162 = .ok (.iload 6, 2) := by decide +kernel
theorem dX6_allocate_164 : decode cX6_allocate 164 = .ok (.iconst 4, 1) := by decide +kernel
theorem dX6_allocate_165 : decode cX6_allocate 165 = .ok (.if_icmp .ge 66, 3) := by decide +kernel
theorem dX6_allocate_168 : decode cX6_allocate 168 = .ok (.aload_n 0, 1) := by decide +kernel
theorem dX6_allocate_169 : decode cX6_allocate 169 = .ok (.getfield 25, 3) := by decide +kernel
theorem dX6_allocate_172 : decode cX6_allocate 172 = .ok (.iload 6, 2) := by decide +kernel
theorem dX6_allocate_174 : decode cX6_allocate 174 = .ok (.iload_n 2, 1) := by decide +kernel
theorem dX6_allocate_175 : decode cX6_allocate 175 = .ok (.aload_n 0, 1) := by decide +kernel
theorem dX6_allocate_176 : decode cX6_allocate 176 = .ok (.getfield 22, 3) := by decide +kernel
theorem dX6_allocate_179 : decode cX6_allocate 179 = .ok (.iload 6, 2) := by decide +kernel
theorem dX6_allocate_181 : decode cX6_allocate 181 = .ok (.iaload, 1) := by decide +kernel
theorem dX6_allocate_182 : decode cX6_allocate 182 = .ok (.imul, 1) := by decide +kernel
theorem dX6_allocate_183 : decode cX6_allocate 183 = .ok (.iload 4, 2) := by decide +kernel
theorem dX6_allocate_185 : decode cX6_allocate 185 = .ok (.irem, 1) := by decide +kernel
theorem dX6_allocate_186 : decode cX6_allocate 186 = .ok (.iastore, 1) := by decide +kernel
theorem dX6_allocate_187 : decode cX6_allocate 187 = .ok (.aload_n 0, 1) := by decide +kernel
theorem dX6_allocate_188 : decode cX6_allocate 188 = .ok (.iload_n 1, 1) := by decide +kernel
theorem dX6_allocate_189 : decode cX6_allocate 189 = .ok (.iconst 5, 1) := by decide +kernel
theorem dX6_allocate_190 : decode cX6_allocate 190 = .ok (.iload 6, 2) := by decide +kernel
theorem dX6_allocate_192 : decode cX6_allocate 192 = .ok (.iadd, 1) := by decide +kernel
theorem dX6_allocate_193 : decode cX6_allocate 193 = .ok (.iload_n 2, 1) := by decide +kernel
theorem dX6_allocate_194 : decode cX6_allocate 194 = .ok (.aload_n 0, 1) := by decide +kernel
theorem dX6_allocate_195 : decode cX6_allocate 195 = .ok (.getfield 22, 3) := by decide +kernel
theorem dX6_allocate_198 : decode cX6_allocate 198 = .ok (.iload 6, 2) := by decide +kernel
theorem dX6_allocate_200 : decode cX6_allocate 200 = .ok (.iaload, 1) := by decide +kernel
theorem dX6_allocate_201 : decode cX6_allocate 201 = .ok (.imul, 1) := by decide +kernel
theorem dX6_allocate_202 : decode cX6_allocate 202 = .ok (.iload 4, 2) := by decide +kernel
theorem dX6_allocate_204 : decode cX6_allocate 204 = .ok (.idiv, 1) := by decide +kernel
theorem dX6_allocate_205 : decode cX6_allocate 205 = .ok (.invokevirtual 79, 3) := by decide +kernel
theorem dX6_allocate_208 : decode cX6_allocate 208 = .ok (.iload 5, 2) := by decide +kernel
theorem dX6_allocate_210 : decode cX6_allocate 210 = .ok (.iload_n 2, 1) := by decide +kernel
theorem dX6_allocate_211 : decode cX6_allocate 211 = .ok (.aload_n 0, 1) := by decide +kernel
theorem dX6_allocate_212 : decode cX6_allocate 212 = .ok (.getfield 22, 3) := by decide +kernel
theorem dX6_allocate_215 : decode cX6_allocate 215 = .ok (.iload 6, 2) := by decide +kernel
theorem dX6_allocate_217 : decode cX6_allocate 217 = .ok (.iaload, 1) := by decide +kernel
theorem dX6_allocate_218 : decode cX6_allocate 218 = .ok (.imul, 1) := by decide +kernel
theorem dX6_allocate_219 : decode cX6_allocate 219 = .ok (.iload 4, 2) := by decide +kernel
theorem dX6_allocate_221 : decode cX6_allocate 221 = .ok (.idiv, 1) := by decide +kernel
theorem dX6_allocate_222 : decode cX6_allocate 222 = .ok (.iadd, 1) := by decide +kernel
theorem dX6_allocate_223 : decode cX6_allocate 223 = .ok (.istore 5, 2) := by decide +kernel
theorem dX6_allocate_225 : decode cX6_allocate 225 = .ok (.iinc 6 1, 3) := by decide +kernel
theorem dX6_allocate_228 : decode cX6_allocate 228 = .ok (.goto (-66), 3) := by decide +kernel
theorem dX6_allocate_231 : decode cX6_allocate 231 = .ok (.iload 5, 2) := by decide +kernel
theorem dX6_allocate_233 : decode cX6_allocate 233 = .ok (.iload_n 2, 1) := by decide +kernel
theorem dX6_allocate_234 : decode cX6_allocate 234 = .ok (.if_icmp .ge 81, 3) := by decide +kernel
theorem dX6_allocate_237 : decode cX6_allocate 237 = .ok (.iconst 0, 1) := by decide +kernel
theorem dX6_allocate_238 : decode cX6_allocate 238 = .ok (.istore 6, 2) := by decide +kernel
theorem dX6_allocate_240 : decode cX6_allocate 240 = .ok (.iconst 1, 1) := by decide +kernel
theorem dX6_allocate_241 : decode cX6_allocate 241 = .ok (.istore 7, 2) := by decide +kernel
theorem dX6_allocate_243 : decode cX6_allocate 243 = .ok (.iload 7, 2) := by decide +kernel
theorem dX6_allocate_245 : decode cX6_allocate 245 = .ok (.iconst 4, 1) := by decide +kernel
theorem dX6_allocate_246 : decode cX6_allocate 246 = .ok (.if_icmp .ge 35, 3) := by decide +kernel
theorem dX6_allocate_249 : decode cX6_allocate 249 = .ok (.aload_n 0, 1) := by decide +kernel
theorem dX6_allocate_250 : decode cX6_allocate 250 = .ok (.getfield 25, 3) := by decide +kernel
theorem dX6_allocate_253 : decode cX6_allocate 253 = .ok (.iload 7, 2) := by decide +kernel
theorem dX6_allocate_255 : decode cX6_allocate 255 = .ok (.iaload, 1) := by decide +kernel
theorem dX6_allocate_256 : decode cX6_allocate 256 = .ok (.aload_n 0, 1) := by decide +kernel
theorem dX6_allocate_257 : decode cX6_allocate 257 = .ok (.getfield 25, 3) := by decide +kernel
theorem dX6_allocate_260 : decode cX6_allocate 260 = .ok (.iload 6, 2) := by decide +kernel
theorem dX6_allocate_262 : decode cX6_allocate 262 = .ok (.iaload, 1) := by decide +kernel
theorem dX6_allocate_263 : decode cX6_allocate 263 = .ok (.if_icmp .le 8, 3) := by decide +kernel
theorem dX6_allocate_266 : decode cX6_allocate 266 = .ok (.iload 7, 2) := by decide +kernel
theorem dX6_allocate_268 : decode cX6_allocate 268 = .ok (.goto 5, 3) := by decide +kernel
theorem dX6_allocate_271 : decode cX6_allocate 271 = .ok (.iload 6, 2) := by decide +kernel
theorem dX6_allocate_273 : decode cX6_allocate 273 = .ok (.istore 6, 2) := by decide +kernel
theorem dX6_allocate_275 : decode cX6_allocate 275 = .ok (.iinc 7 1, 3) := by decide +kernel
theorem dX6_allocate_278 : decode cX6_allocate 278 = .ok (.goto (-35), 3) := by decide +kernel
theorem dX6_allocate_281 : decode cX6_allocate 281 = .ok (.aload_n 0, 1) := by decide +kernel
theorem dX6_allocate_282 : decode cX6_allocate 282 = .ok (.iload_n 1, 1) := by decide +kernel
theorem dX6_allocate_283 : decode cX6_allocate 283 = .ok (.iconst 5, 1) := by decide +kernel
theorem dX6_allocate_284 : decode cX6_allocate 284 = .ok (.iload 6, 2) := by decide +kernel
theorem dX6_allocate_286 : decode cX6_allocate 286 = .ok (.iadd, 1) := by decide +kernel
theorem dX6_allocate_287 : decode cX6_allocate 287 = .ok (.aload_n 0, 1) := by decide +kernel
theorem dX6_allocate_288 : decode cX6_allocate 288 = .ok (.iload_n 1, 1) := by decide +kernel
theorem dX6_allocate_289 : decode cX6_allocate 289 = .ok (.iconst 5, 1) := by decide +kernel
theorem dX6_allocate_290 : decode cX6_allocate 290 = .ok (.iload 6, 2) := by decide +kernel
theorem dX6_allocate_292 : decode cX6_allocate 292 = .ok (.iadd, 1) := by decide +kernel
theorem dX6_allocate_293 : decode cX6_allocate 293 = .ok (.invokevirtual 61, 3) := by decide +kernel
theorem dX6_allocate_296 : decode cX6_allocate 296 = .ok (.iconst 1, 1) := by decide +kernel
theorem dX6_allocate_297 : decode cX6_allocate 297 = .ok (.iadd, 1) := by decide +kernel
theorem dX6_allocate_298 : decode cX6_allocate 298 = .ok (.invokevirtual 79, 3) := by decide +kernel
theorem dX6_allocate_301 : decode cX6_allocate 301 = .ok (.aload_n 0, 1) := by decide +kernel
theorem dX6_allocate_302 : decode cX6_allocate 302 = .ok (.getfield 25, 3) := by decide +kernel
theorem dX6_allocate_305 : decode cX6_allocate 305 = .ok (.iload 6, 2) := by decide +kernel
theorem dX6_allocate_307 : decode cX6_allocate 307 = .ok (.iconst (-1), 1) := by decide +kernel
theorem dX6_allocate_308 : decode cX6_allocate 308 = .ok (.iastore, 1) := by decide +kernel
theorem dX6_allocate_309 : decode cX6_allocate 309 = .ok (.iinc 5 1, 3) := by decide +kernel
theorem dX6_allocate_312 : decode cX6_allocate 312 = .ok (.goto (-81), 3) := by decide +kernel
theorem dX6_allocate_315 : decode cX6_allocate 315 = .ok (.aload_n 0, 1) := by decide +kernel
theorem dX6_allocate_316 : decode cX6_allocate 316 = .ok (.iload_n 1, 1) := by decide +kernel
theorem dX6_allocate_317 : decode cX6_allocate 317 = .ok (.iconst 5, 1) := by decide +kernel
theorem dX6_allocate_318 : decode cX6_allocate 318 = .ok (.invokevirtual 61, 3) := by decide +kernel
theorem dX6_allocate_321 : decode cX6_allocate 321 = .ok (.ireturn, 1) := by decide +kernel
theorem dX6_quota_0 : decode cX6_quota 0 = .ok (.iload_n 1, 1) := by decide +kernel
theorem dX6_quota_1 : decode cX6_quota 1 = .ok (.invokestatic 96, 3) := by decide +kernel
theorem dX6_quota_4 : decode cX6_quota 4 = .ok (.ifCond .eq 10, 3) := by decide +kernel
theorem dX6_quota_7 : decode cX6_quota 7 = .ok (.iload_n 2, 1) := by decide +kernel
theorem dX6_quota_8 : decode cX6_quota 8 = .ok (.invokestatic 71, 3) := by decide +kernel
theorem dX6_quota_11 : decode cX6_quota 11 = .ok (.ifCond .ne 9, 3) := by decide +kernel
theorem dX6_quota_14 : decode cX6_quota 14 = .ok (.aload_n 0, 1) := by decide +kernel
theorem dX6_quota_15 : decode cX6_quota 15 = .ok (.iconst 1, 1) := by decide +kernel
theorem dX6_quota_16 : decode cX6_quota 16 = .ok (.invokevirtual 99, 3) := by decide +kernel
theorem dX6_quota_19 : decode cX6_quota 19 = .ok (.ireturn, 1) := by decide +kernel
theorem dX6_quota_20 : decode cX6_quota 20 = .ok (.aload_n 0, 1) := by decide +kernel
theorem dX6_quota_21 : decode cX6_quota 21 = .ok (.iload_n 1, 1) := by decide +kernel
theorem dX6_quota_22 : decode cX6_quota 22 = .ok (.invokevirtual 89, 3) := by decide +kernel
theorem dX6_quota_25 : decode cX6_quota 25 = .ok (.ifCond .ne 9, 3) := by decide +kernel
theorem dX6_quota_28 : decode cX6_quota 28 = .ok (.aload_n 0, 1) := by decide +kernel
theorem dX6_quota_29 : decode cX6_quota 29 = .ok (.iconst 2, 1) := by decide +kernel
theorem dX6_quota_30 : decode cX6_quota 30 = .ok (.invokevirtual 99, 3) := by decide +kernel
theorem dX6_quota_33 : decode cX6_quota 33 = .ok (.ireturn, 1) := by decide +kernel
theorem dX6_quota_34 : decode cX6_quota 34 = .ok (.aload_n 0, 1) := by decide +kernel
theorem dX6_quota_35 : decode cX6_quota 35 = .ok (.iconst 0, 1) := by decide +kernel
theorem dX6_quota_36 : decode cX6_quota 36 = .ok (.putfield 57, 3) := by decide +kernel
theorem dX6_quota_39 : decode cX6_quota 39 = .ok (.aload_n 0, 1) := by decide +kernel
theorem dX6_quota_40 : decode cX6_quota 40 = .ok (.iload_n 1, 1) := by decide +kernel
theorem dX6_quota_41 : decode cX6_quota 41 = .ok (.iconst 5, 1) := by decide +kernel
theorem dX6_quota_42 : decode cX6_quota 42 = .ok (.iload_n 2, 1) := by decide +kernel
theorem dX6_quota_43 : decode cX6_quota 43 = .ok (.iadd, 1) := by decide +kernel
theorem dX6_quota_44 : decode cX6_quota 44 = .ok (.invokevirtual 61, 3) := by decide +kernel
theorem dX6_quota_47 : decode cX6_quota 47 = .ok (.ireturn, 1) := by decide +kernel
theorem dX6_comes_0 : decode cX6_comes 0 = .ok (.iconst 0, 1) := by decide +kernel
theorem dX6_comes_1 : decode cX6_comes 1 = .ok (.istore_n 3, 1) := by decide +kernel
theorem dX6_comes_2 : decode cX6_comes 2 = .ok (.iload_n 3, 1) := by decide +kernel
theorem dX6_comes_3 : decode cX6_comes 3 = .ok (.iconst 5, 1) := by decide +kernel
theorem dX6_comes_4 : decode cX6_comes 4 = .ok (.if_icmp .ge 29, 3) := by decide +kernel
theorem dX6_comes_7 : decode cX6_comes 7 = .ok (.aload_n 0, 1) := by decide +kernel
theorem dX6_comes_8 : decode cX6_comes 8 = .ok (.getfield 28, 3) := by decide +kernel
theorem dX6_comes_11 : decode cX6_comes 11 = .ok (.iconst 5, 1) := by decide +kernel
theorem dX6_comes_12 : decode cX6_comes 12 = .ok (.aload_n 0, 1) := by decide +kernel
theorem dX6_comes_13 : decode cX6_comes 13 = .ok (.getfield 182, 3) := by decide +kernel
theorem dX6_comes_16 : decode cX6_comes 16 = .ok (.imul, 1) := by decide +kernel
theorem dX6_comes_17 : decode cX6_comes 17 = .ok (.iload_n 3, 1) := by decide +kernel
theorem dX6_comes_18 : decode cX6_comes 18 = .ok (.iadd, 1) := by decide +kernel
theorem dX6_comes_19 : decode cX6_comes 19 = .ok (.aload_n 0, 1) := by decide +kernel
theorem dX6_comes_20 : decode cX6_comes 20 = .ok (.iload_n 1, 1) := by decide +kernel
theorem dX6_comes_21 : decode cX6_comes 21 = .ok (.iload_n 2, 1) := by decide +kernel
theorem dX6_comes_22 : decode cX6_comes 22 = .ok (.iload_n 3, 1) := by decide +kernel
theorem dX6_comes_23 : decode cX6_comes 23 = .ok (.invokevirtual 115, 3) := by decide +kernel
theorem dX6_comes_26 : decode cX6_comes 26 = .ok (.iastore, 1) := by decide +kernel
theorem dX6_comes_27 : decode cX6_comes 27 = .ok (.iinc 3 1, 3) := by decide +kernel
theorem dX6_comes_30 : decode cX6_comes 30 = .ok (.goto (-28), 3) := by decide +kernel
theorem dX6_comes_33 : decode cX6_comes 33 = .ok (.aload_n 0, 1) := by decide +kernel
theorem dX6_comes_34 : decode cX6_comes 34 = .ok (.dup, 1) := by decide +kernel
theorem dX6_comes_35 : decode cX6_comes 35 = .ok (.getfield 182, 3) := by decide +kernel
theorem dX6_comes_38 : decode cX6_comes 38 = .ok (.iconst 1, 1) := by decide +kernel
theorem dX6_comes_39 : decode cX6_comes 39 = .ok (.iadd, 1) := by decide +kernel
theorem dX6_comes_40 : decode cX6_comes 40 = .ok (.putfield 182, 3) := by decide +kernel
theorem dX6_comes_43 : decode cX6_comes 43 = .ok (.return_, 1) := by decide +kernel
theorem dX6_merges_0 : decode cX6_merges 0 = .ok (.aload_n 0, 1) := by decide +kernel
theorem dX6_merges_1 : decode cX6_merges 1 = .ok (.iconst 0, 1) := by decide +kernel
theorem dX6_merges_2 : decode cX6_merges 2 = .ok (.putfield 182, 3) := by decide +kernel
theorem dX6_merges_5 : decode cX6_merges 5 = .ok (.iconst 0, 1) := by decide +kernel
theorem dX6_merges_6 : decode cX6_merges 6 = .ok (.istore_n 3, 1) := by decide +kernel
theorem dX6_merges_7 : decode cX6_merges 7 = .ok (.iconst 0, 1) := by decide +kernel
theorem dX6_merges_8 : decode cX6_merges 8 = .ok (.istore 4, 2) := by decide +kernel
theorem dX6_merges_10 : decode cX6_merges 10 = .ok (.iload_n 3, 1) := by decide +kernel
theorem dX6_merges_11 : decode cX6_merges 11 = .ok (.aload_n 0, 1) := by decide +kernel
theorem dX6_merges_12 : decode cX6_merges 12 = .ok (.iload_n 1, 1) := by decide +kernel
theorem dX6_merges_13 : decode cX6_merges 13 = .ok (.invokevirtual 92, 3) := by decide +kernel
theorem dX6_merges_16 : decode cX6_merges 16 = .ok (.if_icmp .lt 13, 3) := by decide +kernel
theorem dX6_merges_19 : decode cX6_merges 19 = .ok (.iload 4, 2) := by decide +kernel
theorem dX6_merges_21 : decode cX6_merges 21 = .ok (.aload_n 0, 1) := by decide +kernel
theorem dX6_merges_22 : decode cX6_merges 22 = .ok (.iload_n 2, 1) := by decide +kernel
theorem dX6_merges_23 : decode cX6_merges 23 = .ok (.invokevirtual 92, 3) := by decide +kernel
theorem dX6_merges_26 : decode cX6_merges 26 = .ok (.if_icmp .ge 134, 3) := by decide +kernel
theorem dX6_merges_29 : decode cX6_merges 29 = .ok (.iload_n 3, 1) := by decide +kernel
theorem dX6_merges_30 : decode cX6_merges 30 = .ok (.aload_n 0, 1) := by decide +kernel
theorem dX6_merges_31 : decode cX6_merges 31 = .ok (.iload_n 1, 1) := by decide +kernel
theorem dX6_merges_32 : decode cX6_merges 32 = .ok (.invokevirtual 92, 3) := by decide +kernel
theorem dX6_merges_35 : decode cX6_merges 35 = .ok (.if_icmp .eq 31, 3) := by decide +kernel
theorem dX6_merges_38 : decode cX6_merges 38 = .ok (.iload 4, 2) := by decide +kernel
theorem dX6_merges_40 : decode cX6_merges 40 = .ok (.aload_n 0, 1) := by decide +kernel
theorem dX6_merges_41 : decode cX6_merges 41 = .ok (.iload_n 2, 1) := by decide +kernel
theorem dX6_merges_42 : decode cX6_merges 42 = .ok (.invokevirtual 92, 3) := by decide +kernel
theorem dX6_merges_45 : decode cX6_merges 45 = .ok (.if_icmp .ge 25, 3) := by decide +kernel
theorem dX6_merges_48 : decode cX6_merges 48 = .ok (.aload_n 0, 1) := by decide +kernel
theorem dX6_merges_49 : decode cX6_merges 49 = .ok (.iload_n 2, 1) := by decide +kernel
theorem dX6_merges_50 : decode cX6_merges 50 = .ok (.iload 4, 2) := by decide +kernel
theorem dX6_merges_52 : decode cX6_merges 52 = .ok (.iconst 0, 1) := by decide +kernel
theorem dX6_merges_53 : decode cX6_merges 53 = .ok (.invokevirtual 115, 3) := by decide +kernel
theorem dX6_merges_56 : decode cX6_merges 56 = .ok (.aload_n 0, 1) := by decide +kernel
theorem dX6_merges_57 : decode cX6_merges 57 = .ok (.iload_n 1, 1) := by decide +kernel
theorem dX6_merges_58 : decode cX6_merges 58 = .ok (.iload_n 3, 1) := by decide +kernel
theorem dX6_merges_59 : decode cX6_merges 59 = .ok (.iconst 0, 1) := by decide +kernel
theorem dX6_merges_60 : decode cX6_merges 60 = .ok (.invokevirtual 115, 3) := by decide +kernel
theorem dX6_merges_63 : decode cX6_merges 63 = .ok (.if_icmp .gt 7, 3) := by decide +kernel
theorem dX6_merges_66 : decode cX6_merges 66 = .ok (.iconst 1, 1) := by decide +kernel
theorem dX6_merges_67 : decode cX6_merges 67 = .ok (.goto 4, 3) := by decide +kernel
theorem dX6_merges_70 : decode cX6_merges 70 = .ok (.iconst 0, 1) := by decide +kernel
theorem dX6_merges_71 : decode cX6_merges 71 = .ok (.istore 5, 2) := by decide +kernel
theorem dX6_merges_73 : decode cX6_merges 73 = .ok (.iload 5, 2) := by decide +kernel
theorem dX6_merges_75 : decode cX6_merges 75 = .ok (.ifCond .eq 33, 3) := by decide +kernel
theorem dX6_merges_78 : decode cX6_merges 78 = .ok (.iload_n 3, 1) := by decide +kernel
theorem dX6_merges_79 : decode cX6_merges 79 = .ok (.aload_n 0, 1) := by decide +kernel
theorem dX6_merges_80 : decode cX6_merges 80 = .ok (.iload_n 1, 1) := by decide +kernel
theorem dX6_merges_81 : decode cX6_merges 81 = .ok (.invokevirtual 92, 3) := by decide +kernel
theorem dX6_merges_84 : decode cX6_merges 84 = .ok (.if_icmp .ge 24, 3) := by decide +kernel
theorem dX6_merges_87 : decode cX6_merges 87 = .ok (.aload_n 0, 1) := by decide +kernel
theorem dX6_merges_88 : decode cX6_merges 88 = .ok (.iload_n 2, 1) := by decide +kernel
theorem dX6_merges_89 : decode cX6_merges 89 = .ok (.iload 4, 2) := by decide +kernel
theorem dX6_merges_91 : decode cX6_merges 91 = .ok (.iconst 0, 1) := by decide +kernel
theorem dX6_merges_92 : decode cX6_merges 92 = .ok (.invokevirtual 115, 3) := by decide +kernel
theorem dX6_merges_95 : decode cX6_merges 95 = .ok (.aload_n 0, 1) := by decide +kernel
theorem dX6_merges_96 : decode cX6_merges 96 = .ok (.iload_n 1, 1) := by decide +kernel
theorem dX6_merges_97 : decode cX6_merges 97 = .ok (.iload_n 3, 1) := by decide +kernel
theorem dX6_merges_98 : decode cX6_merges 98 = .ok (.iconst 0, 1) := by decide +kernel
theorem dX6_merges_99 : decode cX6_merges 99 = .ok (.invokevirtual 115, 3) := by decide +kernel
theorem dX6_merges_102 : decode cX6_merges 102 = .ok (.if_icmp .ne 6, 3) := by decide +kernel
theorem dX6_merges_105 : decode cX6_merges 105 = .ok (.iinc 3 1, 3) := by decide +kernel
theorem dX6_merges_108 : decode cX6_merges 108 = .ok (.iload 5, 2) := by decide +kernel
theorem dX6_merges_110 : decode cX6_merges 110 = .ok (.ifCond .eq 13, 3) := by decide +kernel
theorem dX6_merges_113 : decode cX6_merges 113 = .ok (.aload_n 0, 1) := by decide +kernel
theorem dX6_merges_114 : decode cX6_merges 114 = .ok (.iload_n 2, 1) := by decide +kernel
theorem dX6_merges_115 : decode cX6_merges 115 = .ok (.iload 4, 2) := by decide +kernel
theorem dX6_merges_117 : decode cX6_merges 117 = .ok (.invokevirtual 185, 3) := by decide +kernel
theorem dX6_merges_120 : decode cX6_merges 120 = .ok (.goto 9, 3) := by decide +kernel
theorem dX6_merges_123 : decode cX6_merges 123 = .ok (.aload_n 0, 1) := by decide +kernel
theorem dX6_merges_124 : decode cX6_merges 124 = .ok (.iload_n 1, 1) := by decide +kernel
theorem dX6_merges_125 : decode cX6_merges 125 = .ok (.iload_n 3, 1) := by decide +kernel
theorem dX6_merges_126 : decode cX6_merges 126 = .ok (.invokevirtual 185, 3) := by decide +kernel
theorem dX6_merges_129 : decode cX6_merges 129 = .ok (.iload_n 3, 1) := by decide +kernel
theorem dX6_merges_130 : decode cX6_merges 130 = .ok (.iload 5, 2) := by decide +kernel
theorem dX6_merges_132 : decode cX6_merges 132 = .ok (.ifCond .eq 7, 3) := by decide +kernel
theorem dX6_merges_135 : decode cX6_merges 135 = .ok (.iconst 0, 1) := by decide +kernel
theorem dX6_merges_136 : decode cX6_merges 136 = .ok (.goto 4, 3) := by decide +kernel
theorem dX6_merges_139 : decode cX6_merges 139 = .ok (.iconst 1, 1) := by decide +kernel
theorem dX6_merges_140 : decode cX6_merges 140 = .ok (.iadd, 1) := by decide +kernel
theorem dX6_merges_141 : decode cX6_merges 141 = .ok (.istore_n 3, 1) := by decide +kernel
theorem dX6_merges_142 : decode cX6_merges 142 = .ok (.iload 4, 2) := by decide +kernel
theorem dX6_merges_144 : decode cX6_merges 144 = .ok (.iload 5, 2) := by decide +kernel
theorem dX6_merges_146 : decode cX6_merges 146 = .ok (.ifCond .eq 7, 3) := by decide +kernel
theorem dX6_merges_149 : decode cX6_merges 149 = .ok (.iconst 1, 1) := by decide +kernel
theorem dX6_merges_150 : decode cX6_merges 150 = .ok (.goto 4, 3) := by decide +kernel
theorem dX6_merges_153 : decode cX6_merges 153 = .ok (.iconst 0, 1) := by decide +kernel
theorem dX6_merges_154 : decode cX6_merges 154 = .ok (.iadd, 1) := by decide +kernel
theorem dX6_merges_155 : decode cX6_merges 155 = .ok (.istore 4, 2) := by decide +kernel
theorem dX6_merges_157 : decode cX6_merges 157 = .ok (.goto (-147), 3) := by decide +kernel
theorem dX6_merges_160 : decode cX6_merges 160 = .ok (.return_, 1) := by decide +kernel
theorem dX6_merge_0 : decode cX6_merge 0 = .ok (.iload_n 1, 1) := by decide +kernel
theorem dX6_merge_1 : decode cX6_merge 1 = .ok (.invokestatic 96, 3) := by decide +kernel
theorem dX6_merge_4 : decode cX6_merge 4 = .ok (.ifCond .eq 10, 3) := by decide +kernel
theorem dX6_merge_7 : decode cX6_merge 7 = .ok (.iload_n 2, 1) := by decide +kernel
theorem dX6_merge_8 : decode cX6_merge 8 = .ok (.invokestatic 96, 3) := by decide +kernel
theorem dX6_merge_11 : decode cX6_merge 11 = .ok (.ifCond .ne 9, 3) := by decide +kernel
theorem dX6_merge_14 : decode cX6_merge 14 = .ok (.aload_n 0, 1) := by decide +kernel
theorem dX6_merge_15 : decode cX6_merge 15 = .ok (.iconst 1, 1) := by decide +kernel
theorem dX6_merge_16 : decode cX6_merge 16 = .ok (.invokevirtual 99, 3) := by decide +kernel
theorem dX6_merge_19 : decode cX6_merge 19 = .ok (.ireturn, 1) := by decide +kernel
theorem dX6_merge_20 : decode cX6_merge 20 = .ok (.aload_n 0, 1) := by decide +kernel
theorem dX6_merge_21 : decode cX6_merge 21 = .ok (.iload_n 1, 1) := by decide +kernel
theorem dX6_merge_22 : decode cX6_merge 22 = .ok (.invokevirtual 89, 3) := by decide +kernel
theorem dX6_merge_25 : decode cX6_merge 25 = .ok (.ifCond .eq 11, 3) := by decide +kernel
theorem dX6_merge_28 : decode cX6_merge 28 = .ok (.aload_n 0, 1) := by decide +kernel
theorem dX6_merge_29 : decode cX6_merge 29 = .ok (.iload_n 2, 1) := by decide +kernel
theorem dX6_merge_30 : decode cX6_merge 30 = .ok (.invokevirtual 89, 3) := by decide +kernel
theorem dX6_merge_33 : decode cX6_merge 33 = .ok (.ifCond .ne 9, 3) := by decide +kernel
theorem dX6_merge_36 : decode cX6_merge 36 = .ok (.aload_n 0, 1) := by decide +kernel
theorem dX6_merge_37 : decode cX6_merge 37 = .ok (.iconst 2, 1) := by decide +kernel
theorem dX6_merge_38 : decode cX6_merge 38 = .ok (.invokevirtual 99, 3) := by decide +kernel
theorem dX6_merge_41 : decode cX6_merge 41 = .ok (.ireturn, 1) := by decide +kernel
theorem dX6_merge_42 : decode cX6_merge 42 = .ok (.iconst 1, 1) := by decide +kernel
theorem dX6_merge_43 : decode cX6_merge 43 = .ok (.istore_n 3, 1) := by decide +kernel
theorem dX6_merge_44 : decode cX6_merge 44 = .ok (.iload_n 3, 1) := by decide +kernel
theorem dX6_merge_45 : decode cX6_merge 45 = .ok (.iconst 3, 1) := by decide +kernel
theorem dX6_merge_46 : decode cX6_merge 46 = .ok (.if_icmp .gt 30, 3) := by decide +kernel
theorem dX6_merge_49 : decode cX6_merge 49 = .ok (.aload_n 0, 1) := by decide +kernel
theorem dX6_merge_50 : decode cX6_merge 50 = .ok (.iload_n 1, 1) := by decide +kernel
theorem dX6_merge_51 : decode cX6_merge 51 = .ok (.iload_n 3, 1) := by decide +kernel
theorem dX6_merge_52 : decode cX6_merge 52 = .ok (.invokevirtual 61, 3) := by decide +kernel
theorem dX6_merge_55 : decode cX6_merge 55 = .ok (.aload_n 0, 1) := by decide +kernel
theorem dX6_merge_56 : decode cX6_merge 56 = .ok (.iload_n 2, 1) := by decide +kernel
theorem dX6_merge_57 : decode cX6_merge 57 = .ok (.iload_n 3, 1) := by decide +kernel
theorem dX6_merge_58 : decode cX6_merge 58 = .ok (.invokevirtual 61, 3) := by decide +kernel
theorem dX6_merge_61 : decode cX6_merge 61 = .ok (.if_icmp .eq 9, 3) := by decide +kernel
theorem dX6_merge_64 : decode cX6_merge 64 = .ok (.aload_n 0, 1) := by decide +kernel
theorem dX6_merge_65 : decode cX6_merge 65 = .ok (.iconst 3, 1) := by decide +kernel
theorem dX6_merge_66 : decode cX6_merge 66 = .ok (.invokevirtual 99, 3) := by decide +kernel
theorem dX6_merge_69 : decode cX6_merge 69 = .ok (.ireturn, 1) := by decide +kernel
theorem dX6_merge_70 : decode cX6_merge 70 = .ok (.iinc 3 1, 3) := by decide +kernel
theorem dX6_merge_73 : decode cX6_merge 73 = .ok (.goto (-29), 3) := by decide +kernel
theorem dX6_merge_76 : decode cX6_merge 76 = .ok (.aload_n 0, 1) := by decide +kernel
theorem dX6_merge_77 : decode cX6_merge 77 = .ok (.iload_n 1, 1) := by decide +kernel
theorem dX6_merge_78 : decode cX6_merge 78 = .ok (.iload_n 2, 1) := by decide +kernel
theorem dX6_merge_79 : decode cX6_merge 79 = .ok (.invokevirtual 189, 3) := by decide +kernel
theorem dX6_merge_82 : decode cX6_merge 82 = .ok (.aload_n 0, 1) := by decide +kernel
theorem dX6_merge_83 : decode cX6_merge 83 = .ok (.iload_n 2, 1) := by decide +kernel
theorem dX6_merge_84 : decode cX6_merge 84 = .ok (.iconst 4, 1) := by decide +kernel
theorem dX6_merge_85 : decode cX6_merge 85 = .ok (.invokevirtual 61, 3) := by decide +kernel
theorem dX6_merge_88 : decode cX6_merge 88 = .ok (.istore_n 3, 1) := by decide +kernel
theorem dX6_merge_89 : decode cX6_merge 89 = .ok (.iload_n 3, 1) := by decide +kernel
theorem dX6_merge_90 : decode cX6_merge 90 = .ok (.ifCond .ne 18, 3) := by decide +kernel
theorem dX6_merge_93 : decode cX6_merge 93 = .ok (.aload_n 0, 1) := by decide +kernel
theorem dX6_merge_94 : decode cX6_merge 94 = .ok (.getfield 182, 3) := by decide +kernel
theorem dX6_merge_97 : decode cX6_merge 97 = .ok (.bipush 60, 2) := by decide +kernel
theorem dX6_merge_99 : decode cX6_merge 99 = .ok (.if_icmp .le 9, 3) := by decide +kernel
theorem dX6_merge_102 : decode cX6_merge 102 = .ok (.aload_n 0, 1) := by decide +kernel
theorem dX6_merge_103 : decode cX6_merge 103 = .ok (.iconst 3, 1) := by decide +kernel
theorem dX6_merge_104 : decode cX6_merge 104 = .ok (.invokevirtual 99, 3) := by decide +kernel
theorem dX6_merge_107 : decode cX6_merge 107 = .ok (.ireturn, 1) := by decide +kernel
theorem dX6_merge_108 : decode cX6_merge 108 = .ok (.aload_n 0, 1) := by decide +kernel
theorem dX6_merge_109 : decode cX6_merge 109 = .ok (.iconst 0, 1) := by decide +kernel
theorem dX6_merge_110 : decode cX6_merge 110 = .ok (.putfield 57, 3) := by decide +kernel
theorem dX6_merge_113 : decode cX6_merge 113 = .ok (.aload_n 0, 1) := by decide +kernel
theorem dX6_merge_114 : decode cX6_merge 114 = .ok (.invokevirtual 105, 3) := by decide +kernel
theorem dX6_merge_117 : decode cX6_merge 117 = .ok (.iload_n 3, 1) := by decide +kernel
theorem dX6_merge_118 : decode cX6_merge 118 = .ok (.ifCond .le 20, 3) := by decide +kernel
theorem dX6_merge_121 : decode cX6_merge 121 = .ok (.aload_n 0, 1) := by decide +kernel
theorem dX6_merge_122 : decode cX6_merge 122 = .ok (.getfield 182, 3) := by decide +kernel
theorem dX6_merge_125 : decode cX6_merge 125 = .ok (.iload_n 3, 1) := by decide +kernel
theorem dX6_merge_126 : decode cX6_merge 126 = .ok (.if_icmp .le 12, 3) := by decide +kernel
theorem dX6_merge_129 : decode cX6_merge 129 = .ok (.aload_n 0, 1) := by decide +kernel
theorem dX6_merge_130 : decode cX6_merge 130 = .ok (.getfield 182, 3) := by decide +kernel
theorem dX6_merge_133 : decode cX6_merge 133 = .ok (.iload_n 3, 1) := by decide +kernel
theorem dX6_merge_134 : decode cX6_merge 134 = .ok (.isub, 1) := by decide +kernel
theorem dX6_merge_135 : decode cX6_merge 135 = .ok (.goto 4, 3) := by decide +kernel
theorem dX6_merge_138 : decode cX6_merge 138 = .ok (.iconst 0, 1) := by decide +kernel
theorem dX6_merge_139 : decode cX6_merge 139 = .ok (.istore 4, 2) := by decide +kernel
theorem dX6_merge_141 : decode cX6_merge 141 = .ok (.iload 4, 2) := by decide +kernel
theorem dX6_merge_143 : decode cX6_merge 143 = .ok (.istore 5, 2) := by decide +kernel
theorem dX6_merge_145 : decode cX6_merge 145 = .ok (.iload 5, 2) := by decide +kernel
theorem dX6_merge_147 : decode cX6_merge 147 = .ok (.aload_n 0, 1) := by decide +kernel
theorem dX6_merge_148 : decode cX6_merge 148 = .ok (.getfield 182, 3) := by decide +kernel
theorem dX6_merge_151 : decode cX6_merge 151 = .ok (.if_icmp .ge 68, 3) := by decide +kernel
theorem dX6_merge_154 : decode cX6_merge 154 = .ok (.iconst 5, 1) := by decide +kernel
theorem dX6_merge_155 : decode cX6_merge 155 = .ok (.iload 5, 2) := by decide +kernel
theorem dX6_merge_157 : decode cX6_merge 157 = .ok (.imul, 1) := by decide +kernel
theorem dX6_merge_158 : decode cX6_merge 158 = .ok (.istore 6, 2) := by decide +kernel
theorem dX6_merge_160 : decode cX6_merge 160 = .ok (.aload_n 0, 1) := by decide +kernel
theorem dX6_merge_161 : decode cX6_merge 161 = .ok (.iload_n 2, 1) := by decide +kernel
theorem dX6_merge_162 : decode cX6_merge 162 = .ok (.iload 5, 2) := by decide +kernel
theorem dX6_merge_164 : decode cX6_merge 164 = .ok (.iload 4, 2) := by decide +kernel
theorem dX6_merge_166 : decode cX6_merge 166 = .ok (.isub, 1) := by decide +kernel
theorem dX6_merge_167 : decode cX6_merge 167 = .ok (.aload_n 0, 1) := by decide +kernel
theorem dX6_merge_168 : decode cX6_merge 168 = .ok (.getfield 28, 3) := by decide +kernel
theorem dX6_merge_171 : decode cX6_merge 171 = .ok (.iload 6, 2) := by decide +kernel
theorem dX6_merge_173 : decode cX6_merge 173 = .ok (.iaload, 1) := by decide +kernel
theorem dX6_merge_174 : decode cX6_merge 174 = .ok (.aload_n 0, 1) := by decide +kernel
theorem dX6_merge_175 : decode cX6_merge 175 = .ok (.getfield 28, 3) := by decide +kernel
theorem dX6_merge_178 : decode cX6_merge 178 = .ok (.iload 6, 2) := by decide +kernel
theorem dX6_merge_180 : decode cX6_merge 180 = .ok (.iconst 1, 1) := by decide +kernel
theorem dX6_merge_181 : decode cX6_merge 181 = .ok (.iadd, 1) := by decide +kernel
theorem dX6_merge_182 : decode cX6_merge 182 = .ok (.iaload, 1) := by decide +kernel
theorem dX6_merge_183 : decode cX6_merge 183 = .ok (.aload_n 0, 1) := by decide +kernel
theorem dX6_merge_184 : decode cX6_merge 184 = .ok (.getfield 28, 3) := by decide +kernel
theorem dX6_merge_187 : decode cX6_merge 187 = .ok (.iload 6, 2) := by decide +kernel
theorem dX6_merge_189 : decode cX6_merge 189 = .ok (.iconst 2, 1) := by decide +kernel
theorem dX6_merge_190 : decode cX6_merge 190 = .ok (.iadd, 1) := by decide +kernel
theorem dX6_merge_191 : decode cX6_merge 191 = .ok (.iaload, 1) := by decide +kernel
theorem dX6_merge_192 : decode cX6_merge 192 = .ok (.aload_n 0, 1) := by decide +kernel
theorem dX6_merge_193 : decode cX6_merge 193 = .ok (.getfield 28, 3) := by decide +kernel
theorem dX6_merge_196 : decode cX6_merge 196 = .ok (.iload 6, 2) := by decide +kernel
theorem dX6_merge_198 : decode cX6_merge 198 = .ok (.iconst 3, 1) := by decide +kernel
theorem dX6_merge_199 : decode cX6_merge 199 = .ok (.iadd, 1) := by decide +kernel
theorem dX6_merge_200 : decode cX6_merge 200 = .ok (.iaload, 1) := by decide +kernel
theorem dX6_merge_201 : decode cX6_merge 201 = .ok (.aload_n 0, 1) := by decide +kernel
theorem dX6_merge_202 : decode cX6_merge 202 = .ok (.getfield 28, 3) := by decide +kernel
theorem dX6_merge_205 : decode cX6_merge 205 = .ok (.iload 6, 2) := by decide +kernel
theorem dX6_merge_207 : decode cX6_merge 207 = .ok (.iconst 4, 1) := by decide +kernel
theorem dX6_merge_208 : decode cX6_merge 208 = .ok (.iadd, 1) := by decide +kernel
theorem dX6_merge_209 : decode cX6_merge 209 = .ok (.iaload, 1) := by decide +kernel
theorem dX6_merge_210 : decode cX6_merge 210 = .ok (.invokevirtual 119, 3) := by decide +kernel
theorem dX6_merge_213 : decode cX6_merge 213 = .ok (.iinc 5 1, 3) := by decide +kernel
theorem dX6_merge_216 : decode cX6_merge 216 = .ok (.goto (-71), 3) := by decide +kernel
theorem dX6_merge_219 : decode cX6_merge 219 = .ok (.aload_n 0, 1) := by decide +kernel
theorem dX6_merge_220 : decode cX6_merge 220 = .ok (.iload_n 2, 1) := by decide +kernel
theorem dX6_merge_221 : decode cX6_merge 221 = .ok (.bipush 9, 2) := by decide +kernel
theorem dX6_merge_223 : decode cX6_merge 223 = .ok (.aload_n 0, 1) := by decide +kernel
theorem dX6_merge_224 : decode cX6_merge 224 = .ok (.getfield 182, 3) := by decide +kernel
theorem dX6_merge_227 : decode cX6_merge 227 = .ok (.iload 4, 2) := by decide +kernel
theorem dX6_merge_229 : decode cX6_merge 229 = .ok (.isub, 1) := by decide +kernel
theorem dX6_merge_230 : decode cX6_merge 230 = .ok (.invokevirtual 79, 3) := by decide +kernel
theorem dX6_merge_233 : decode cX6_merge 233 = .ok (.aload_n 0, 1) := by decide +kernel
theorem dX6_merge_234 : decode cX6_merge 234 = .ok (.iload_n 2, 1) := by decide +kernel
theorem dX6_merge_235 : decode cX6_merge 235 = .ok (.invokevirtual 92, 3) := by decide +kernel
theorem dX6_merge_238 : decode cX6_merge 238 = .ok (.ireturn, 1) := by decide +kernel
theorem dX6_copy_0 : decode cX6_copy 0 = .ok (.iload_n 1, 1) := by decide +kernel
theorem dX6_copy_1 : decode cX6_copy 1 = .ok (.invokestatic 96, 3) := by decide +kernel
theorem dX6_copy_4 : decode cX6_copy 4 = .ok (.ifCond .eq 10, 3) := by decide +kernel
theorem dX6_copy_7 : decode cX6_copy 7 = .ok (.iload_n 2, 1) := by decide +kernel
theorem dX6_copy_8 : decode cX6_copy 8 = .ok (.invokestatic 96, 3) := by decide +kernel
theorem dX6_copy_11 : decode cX6_copy 11 = .ok (.ifCond .ne 9, 3) := by decide +kernel
theorem dX6_copy_14 : decode cX6_copy 14 = .ok (.aload_n 0, 1) := by decide +kernel
theorem dX6_copy_15 : decode cX6_copy 15 = .ok (.iconst 1, 1) := by decide +kernel
theorem dX6_copy_16 : decode cX6_copy 16 = .ok (.invokevirtual 99, 3) := by decide +kernel
theorem dX6_copy_19 : decode cX6_copy 19 = .ok (.ireturn, 1) := by decide +kernel
theorem dX6_copy_20 : decode cX6_copy 20 = .ok (.aload_n 0, 1) := by decide +kernel
theorem dX6_copy_21 : decode cX6_copy 21 = .ok (.iload_n 1, 1) := by decide +kernel
theorem dX6_copy_22 : decode cX6_copy 22 = .ok (.invokevirtual 89, 3) := by decide +kernel
theorem dX6_copy_25 : decode cX6_copy 25 = .ok (.ifCond .ne 9, 3) := by decide +kernel
theorem dX6_copy_28 : decode cX6_copy 28 = .ok (.aload_n 0, 1) := by decide +kernel
theorem dX6_copy_29 : decode cX6_copy 29 = .ok (.iconst 2, 1) := by decide +kernel
theorem dX6_copy_30 : decode cX6_copy 30 = .ok (.invokevirtual 99, 3) := by decide +kernel
theorem dX6_copy_33 : decode cX6_copy 33 = .ok (.ireturn, 1) := by decide +kernel
theorem dX6_copy_34 : decode cX6_copy 34 = .ok (.aload_n 0, 1) := by decide +kernel
theorem dX6_copy_35 : decode cX6_copy 35 = .ok (.iconst 0, 1) := by decide +kernel
theorem dX6_copy_36 : decode cX6_copy 36 = .ok (.putfield 57, 3) := by decide +kernel
theorem dX6_copy_39 : decode cX6_copy 39 = .ok (.aload_n 0, 1) := by decide +kernel
theorem dX6_copy_40 : decode cX6_copy 40 = .ok (.invokevirtual 105, 3) := by decide +kernel
theorem dX6_copy_43 : decode cX6_copy 43 = .ok (.iconst 0, 1) := by decide +kernel
theorem dX6_copy_44 : decode cX6_copy 44 = .ok (.istore_n 3, 1) := by decide +kernel
theorem dX6_copy_45 : decode cX6_copy 45 = .ok (.iload_n 3, 1) := by decide +kernel
theorem dX6_copy_46 : decode cX6_copy 46 = .ok (.sipush 310, 3) := by decide +kernel
theorem dX6_copy_49 : decode cX6_copy 49 = .ok (.if_icmp .ge 21, 3) := by decide +kernel
theorem dX6_copy_52 : decode cX6_copy 52 = .ok (.aload_n 0, 1) := by decide +kernel
theorem dX6_copy_53 : decode cX6_copy 53 = .ok (.iload_n 2, 1) := by decide +kernel
theorem dX6_copy_54 : decode cX6_copy 54 = .ok (.iload_n 3, 1) := by decide +kernel
theorem dX6_copy_55 : decode cX6_copy 55 = .ok (.aload_n 0, 1) := by decide +kernel
theorem dX6_copy_56 : decode cX6_copy 56 = .ok (.iload_n 1, 1) := by decide +kernel
theorem dX6_copy_57 : decode cX6_copy 57 = .ok (.iload_n 3, 1) := by decide +kernel
theorem dX6_copy_58 : decode cX6_copy 58 = .ok (.invokevirtual 61, 3) := by decide +kernel
theorem dX6_copy_61 : decode cX6_copy 61 = .ok (.invokevirtual 79, 3) := by decide +kernel
theorem dX6_copy_64 : decode cX6_copy 64 = .ok (.iinc 3 1, 3) := by decide +kernel
theorem dX6_copy_67 : decode cX6_copy 67 = .ok (.goto (-22), 3) := by decide +kernel
theorem dX6_copy_70 : decode cX6_copy 70 = .ok (.aload_n 0, 1) := by decide +kernel
theorem dX6_copy_71 : decode cX6_copy 71 = .ok (.iload_n 2, 1) := by decide +kernel
theorem dX6_copy_72 : decode cX6_copy 72 = .ok (.invokevirtual 92, 3) := by decide +kernel
theorem dX6_copy_75 : decode cX6_copy 75 = .ok (.ireturn, 1) := by decide +kernel
theorem dX6_isKept_0 : decode cX6_isKept 0 = .ok (.iload_n 2, 1) := by decide +kernel
theorem dX6_isKept_1 : decode cX6_isKept 1 = .ok (.ifCond .lt 24, 3) := by decide +kernel
theorem dX6_isKept_4 : decode cX6_isKept 4 = .ok (.aload_n 0, 1) := by decide +kernel
theorem dX6_isKept_5 : decode cX6_isKept 5 = .ok (.iload_n 1, 1) := by decide +kernel
theorem dX6_isKept_6 : decode cX6_isKept 6 = .ok (.invokevirtual 89, 3) := by decide +kernel
theorem dX6_isKept_9 : decode cX6_isKept 9 = .ok (.ifCond .eq 12, 3) := by decide +kernel
theorem dX6_isKept_12 : decode cX6_isKept 12 = .ok (.iload_n 2, 1) := by decide +kernel
theorem dX6_isKept_13 : decode cX6_isKept 13 = .ok (.aload_n 0, 1) := by decide +kernel
theorem dX6_isKept_14 : decode cX6_isKept 14 = .ok (.iload_n 1, 1) := by decide +kernel
theorem dX6_isKept_15 : decode cX6_isKept 15 = .ok (.invokevirtual 92, 3) := by decide +kernel
theorem dX6_isKept_18 : decode cX6_isKept 18 = .ok (.if_icmp .ge 7, 3) := by decide +kernel
theorem dX6_isKept_21 : decode cX6_isKept 21 = .ok (.iconst 1, 1) := by decide +kernel
theorem dX6_isKept_22 : decode cX6_isKept 22 = .ok (.goto 4, 3) := by decide +kernel
theorem dX6_isKept_25 : decode cX6_isKept 25 = .ok (.iconst 0, 1) := by decide +kernel
theorem dX6_isKept_26 : decode cX6_isKept 26 = .ok (.ireturn, 1) := by decide +kernel
theorem dX6_notKept_0 : decode cX6_notKept 0 = .ok (.iload_n 1, 1) := by decide +kernel
theorem dX6_notKept_1 : decode cX6_notKept 1 = .ok (.invokestatic 96, 3) := by decide +kernel
theorem dX6_notKept_4 : decode cX6_notKept 4 = .ok (.ifCond .eq 20, 3) := by decide +kernel
theorem dX6_notKept_7 : decode cX6_notKept 7 = .ok (.aload_n 0, 1) := by decide +kernel
theorem dX6_notKept_8 : decode cX6_notKept 8 = .ok (.iload_n 1, 1) := by decide +kernel
theorem dX6_notKept_9 : decode cX6_notKept 9 = .ok (.invokevirtual 89, 3) := by decide +kernel
theorem dX6_notKept_12 : decode cX6_notKept 12 = .ok (.ifCond .eq 16, 3) := by decide +kernel
theorem dX6_notKept_15 : decode cX6_notKept 15 = .ok (.aload_n 0, 1) := by decide +kernel
theorem dX6_notKept_16 : decode cX6_notKept 16 = .ok (.iload_n 1, 1) := by decide +kernel
theorem dX6_notKept_17 : decode cX6_notKept 17 = .ok (.iload_n 2, 1) := by decide +kernel
theorem dX6_notKept_18 : decode cX6_notKept 18 = .ok (.invokevirtual 192, 3) := by decide +kernel
theorem dX6_notKept_21 : decode cX6_notKept 21 = .ok (.ifCond .ne 7, 3) := by decide +kernel
theorem dX6_notKept_24 : decode cX6_notKept 24 = .ok (.iconst 1, 1) := by decide +kernel
theorem dX6_notKept_25 : decode cX6_notKept 25 = .ok (.goto 4, 3) := by decide +kernel
theorem dX6_notKept_28 : decode cX6_notKept 28 = .ok (.iconst 0, 1) := by decide +kernel
theorem dX6_notKept_29 : decode cX6_notKept 29 = .ok (.ireturn, 1) := by decide +kernel
theorem dX6_kept_0 : decode cX6_kept 0 = .ok (.aload_n 0, 1) := by decide +kernel
theorem dX6_kept_1 : decode cX6_kept 1 = .ok (.iload_n 1, 1) := by decide +kernel
theorem dX6_kept_2 : decode cX6_kept 2 = .ok (.iload_n 2, 1) := by decide +kernel
theorem dX6_kept_3 : decode cX6_kept 3 = .ok (.invokevirtual 195, 3) := by decide +kernel
theorem dX6_kept_6 : decode cX6_kept 6 = .ok (.ifCond .le 9, 3) := by decide +kernel
theorem dX6_kept_9 : decode cX6_kept 9 = .ok (.aload_n 0, 1) := by decide +kernel
theorem dX6_kept_10 : decode cX6_kept 10 = .ok (.iconst 1, 1) := by decide +kernel
theorem dX6_kept_11 : decode cX6_kept 11 = .ok (.invokevirtual 99, 3) := by decide +kernel
theorem dX6_kept_14 : decode cX6_kept 14 = .ok (.ireturn, 1) := by decide +kernel
theorem dX6_kept_15 : decode cX6_kept 15 = .ok (.iload_n 3, 1) := by decide +kernel
theorem dX6_kept_16 : decode cX6_kept 16 = .ok (.i2l, 1) := by decide +kernel
theorem dX6_kept_17 : decode cX6_kept 17 = .ok (.lconst 0, 1) := by decide +kernel
theorem dX6_kept_18 : decode cX6_kept 18 = .ok (.ldc2_w 198, 3) := by decide +kernel
theorem dX6_kept_21 : decode cX6_kept 21 = .ok (.invokestatic 67, 3) := by decide +kernel
theorem dX6_kept_24 : decode cX6_kept 24 = .ok (.ifCond .ne 9, 3) := by decide +kernel
theorem dX6_kept_27 : decode cX6_kept 27 = .ok (.aload_n 0, 1) := by decide +kernel
theorem dX6_kept_28 : decode cX6_kept 28 = .ok (.iconst 2, 1) := by decide +kernel
theorem dX6_kept_29 : decode cX6_kept 29 = .ok (.invokevirtual 99, 3) := by decide +kernel
theorem dX6_kept_32 : decode cX6_kept 32 = .ok (.ireturn, 1) := by decide +kernel
theorem dX6_kept_33 : decode cX6_kept 33 = .ok (.aload_n 0, 1) := by decide +kernel
theorem dX6_kept_34 : decode cX6_kept 34 = .ok (.iload_n 1, 1) := by decide +kernel
theorem dX6_kept_35 : decode cX6_kept 35 = .ok (.invokevirtual 89, 3) := by decide +kernel
theorem dX6_kept_38 : decode cX6_kept 38 = .ok (.ifCond .ne 9, 3) := by decide +kernel
theorem dX6_kept_41 : decode cX6_kept 41 = .ok (.aload_n 0, 1) := by decide +kernel
theorem dX6_kept_42 : decode cX6_kept 42 = .ok (.iconst 3, 1) := by decide +kernel
theorem dX6_kept_43 : decode cX6_kept 43 = .ok (.invokevirtual 99, 3) := by decide +kernel
theorem dX6_kept_46 : decode cX6_kept 46 = .ok (.ireturn, 1) := by decide +kernel
theorem dX6_kept_47 : decode cX6_kept 47 = .ok (.aload_n 0, 1) := by decide +kernel
theorem dX6_kept_48 : decode cX6_kept 48 = .ok (.iconst 0, 1) := by decide +kernel
theorem dX6_kept_49 : decode cX6_kept 49 = .ok (.putfield 57, 3) := by decide +kernel
theorem dX6_kept_52 : decode cX6_kept 52 = .ok (.aload_n 0, 1) := by decide +kernel
theorem dX6_kept_53 : decode cX6_kept 53 = .ok (.iload_n 1, 1) := by decide +kernel
theorem dX6_kept_54 : decode cX6_kept 54 = .ok (.invokevirtual 172, 3) := by decide +kernel
theorem dX6_kept_57 : decode cX6_kept 57 = .ok (.iload_n 3, 1) := by decide +kernel
theorem dX6_kept_58 : decode cX6_kept 58 = .ok (.iconst 5, 1) := by decide +kernel
theorem dX6_kept_59 : decode cX6_kept 59 = .ok (.if_icmp .ne 12, 3) := by decide +kernel
theorem dX6_kept_62 : decode cX6_kept 62 = .ok (.aload_n 0, 1) := by decide +kernel
theorem dX6_kept_63 : decode cX6_kept 63 = .ok (.getfield 19, 3) := by decide +kernel
theorem dX6_kept_66 : decode cX6_kept 66 = .ok (.iload_n 2, 1) := by decide +kernel
theorem dX6_kept_67 : decode cX6_kept 67 = .ok (.iaload, 1) := by decide +kernel
theorem dX6_kept_68 : decode cX6_kept 68 = .ok (.goto 10, 3) := by decide +kernel
theorem dX6_kept_71 : decode cX6_kept 71 = .ok (.aload_n 0, 1) := by decide +kernel
theorem dX6_kept_72 : decode cX6_kept 72 = .ok (.iload_n 1, 1) := by decide +kernel
theorem dX6_kept_73 : decode cX6_kept 73 = .ok (.iload_n 2, 1) := by decide +kernel
theorem dX6_kept_74 : decode cX6_kept 74 = .ok (.iload_n 3, 1) := by decide +kernel
theorem dX6_kept_75 : decode cX6_kept 75 = .ok (.invokevirtual 115, 3) := by decide +kernel
theorem dX6_kept_78 : decode cX6_kept 78 = .ok (.ireturn, 1) := by decide +kernel
theorem dX6_sampled_0 : decode cX6_sampled 0 = .ok (.iload_n 1, 1) := by decide +kernel
theorem dX6_sampled_1 : decode cX6_sampled 1 = .ok (.invokestatic 96, 3) := by decide +kernel
theorem dX6_sampled_4 : decode cX6_sampled 4 = .ok (.ifCond .ne 9, 3) := by decide +kernel
theorem dX6_sampled_7 : decode cX6_sampled 7 = .ok (.aload_n 0, 1) := by decide +kernel
theorem dX6_sampled_8 : decode cX6_sampled 8 = .ok (.iconst 1, 1) := by decide +kernel
theorem dX6_sampled_9 : decode cX6_sampled 9 = .ok (.invokevirtual 99, 3) := by decide +kernel
theorem dX6_sampled_12 : decode cX6_sampled 12 = .ok (.ireturn, 1) := by decide +kernel
theorem dX6_sampled_13 : decode cX6_sampled 13 = .ok (.aload_n 0, 1) := by decide +kernel
theorem dX6_sampled_14 : decode cX6_sampled 14 = .ok (.iload_n 1, 1) := by decide +kernel
theorem dX6_sampled_15 : decode cX6_sampled 15 = .ok (.invokevirtual 89, 3) := by decide +kernel
theorem dX6_sampled_18 : decode cX6_sampled 18 = .ok (.ifCond .eq 8, 3) := by decide +kernel
theorem dX6_sampled_21 : decode cX6_sampled 21 = .ok (.aload_n 0, 1) := by decide +kernel
theorem dX6_sampled_22 : decode cX6_sampled 22 = .ok (.iload_n 1, 1) := by decide +kernel
theorem dX6_sampled_23 : decode cX6_sampled 23 = .ok (.invokevirtual 172, 3) := by decide +kernel
theorem dX6_sampled_26 : decode cX6_sampled 26 = .ok (.aload_n 0, 1) := by decide +kernel
theorem dX6_sampled_27 : decode cX6_sampled 27 = .ok (.iload_n 1, 1) := by decide +kernel
theorem dX6_sampled_28 : decode cX6_sampled 28 = .ok (.invokevirtual 89, 3) := by decide +kernel
theorem dX6_sampled_31 : decode cX6_sampled 31 = .ok (.ifCond .eq 25, 3) := by decide +kernel
theorem dX6_sampled_34 : decode cX6_sampled 34 = .ok (.iload_n 2, 1) := by decide +kernel
theorem dX6_sampled_35 : decode cX6_sampled 35 = .ok (.i2l, 1) := by decide +kernel
theorem dX6_sampled_36 : decode cX6_sampled 36 = .ok (.lconst 0, 1) := by decide +kernel
theorem dX6_sampled_37 : decode cX6_sampled 37 = .ok (.aload_n 0, 1) := by decide +kernel
theorem dX6_sampled_38 : decode cX6_sampled 38 = .ok (.getfield 160, 3) := by decide +kernel
theorem dX6_sampled_41 : decode cX6_sampled 41 = .ok (.iconst 1, 1) := by decide +kernel
theorem dX6_sampled_42 : decode cX6_sampled 42 = .ok (.isub, 1) := by decide +kernel
theorem dX6_sampled_43 : decode cX6_sampled 43 = .ok (.i2l, 1) := by decide +kernel
theorem dX6_sampled_44 : decode cX6_sampled 44 = .ok (.invokestatic 67, 3) := by decide +kernel
theorem dX6_sampled_47 : decode cX6_sampled 47 = .ok (.ifCond .ne 9, 3) := by decide +kernel
theorem dX6_sampled_50 : decode cX6_sampled 50 = .ok (.aload_n 0, 1) := by decide +kernel
theorem dX6_sampled_51 : decode cX6_sampled 51 = .ok (.iconst 1, 1) := by decide +kernel
theorem dX6_sampled_52 : decode cX6_sampled 52 = .ok (.invokevirtual 99, 3) := by decide +kernel
theorem dX6_sampled_55 : decode cX6_sampled 55 = .ok (.ireturn, 1) := by decide +kernel
theorem dX6_sampled_56 : decode cX6_sampled 56 = .ok (.iload_n 3, 1) := by decide +kernel
theorem dX6_sampled_57 : decode cX6_sampled 57 = .ok (.i2l, 1) := by decide +kernel
theorem dX6_sampled_58 : decode cX6_sampled 58 = .ok (.lconst 0, 1) := by decide +kernel
theorem dX6_sampled_59 : decode cX6_sampled 59 = .ok (.ldc2_w 200, 3) := by decide +kernel
theorem dX6_sampled_62 : decode cX6_sampled 62 = .ok (.invokestatic 67, 3) := by decide +kernel
theorem dX6_sampled_65 : decode cX6_sampled 65 = .ok (.ifCond .ne 9, 3) := by decide +kernel
theorem dX6_sampled_68 : decode cX6_sampled 68 = .ok (.aload_n 0, 1) := by decide +kernel
theorem dX6_sampled_69 : decode cX6_sampled 69 = .ok (.iconst 2, 1) := by decide +kernel
theorem dX6_sampled_70 : decode cX6_sampled 70 = .ok (.invokevirtual 99, 3) := by decide +kernel
theorem dX6_sampled_73 : decode cX6_sampled 73 = .ok (.ireturn, 1) := by decide +kernel
theorem dX6_sampled_74 : decode cX6_sampled 74 = .ok (.aload_n 0, 1) := by decide +kernel
theorem dX6_sampled_75 : decode cX6_sampled 75 = .ok (.iload_n 1, 1) := by decide +kernel
theorem dX6_sampled_76 : decode cX6_sampled 76 = .ok (.invokevirtual 89, 3) := by decide +kernel
theorem dX6_sampled_79 : decode cX6_sampled 79 = .ok (.ifCond .ne 9, 3) := by decide +kernel
theorem dX6_sampled_82 : decode cX6_sampled 82 = .ok (.aload_n 0, 1) := by decide +kernel
theorem dX6_sampled_83 : decode cX6_sampled 83 = .ok (.iconst 3, 1) := by decide +kernel
theorem dX6_sampled_84 : decode cX6_sampled 84 = .ok (.invokevirtual 99, 3) := by decide +kernel
theorem dX6_sampled_87 : decode cX6_sampled 87 = .ok (.ireturn, 1) := by decide +kernel
theorem dX6_sampled_88 : decode cX6_sampled 88 = .ok (.aload_n 0, 1) := by decide +kernel
theorem dX6_sampled_89 : decode cX6_sampled 89 = .ok (.iconst 0, 1) := by decide +kernel
theorem dX6_sampled_90 : decode cX6_sampled 90 = .ok (.putfield 57, 3) := by decide +kernel
theorem dX6_sampled_93 : decode cX6_sampled 93 = .ok (.aload_n 0, 1) := by decide +kernel
theorem dX6_sampled_94 : decode cX6_sampled 94 = .ok (.iload_n 1, 1) := by decide +kernel
theorem dX6_sampled_95 : decode cX6_sampled 95 = .ok (.aload_n 0, 1) := by decide +kernel
theorem dX6_sampled_96 : decode cX6_sampled 96 = .ok (.getfield 16, 3) := by decide +kernel
theorem dX6_sampled_99 : decode cX6_sampled 99 = .ok (.iload_n 2, 1) := by decide +kernel
theorem dX6_sampled_100 : decode cX6_sampled 100 = .ok (.iaload, 1) := by decide +kernel
theorem dX6_sampled_101 : decode cX6_sampled 101 = .ok (.iload_n 3, 1) := by decide +kernel
theorem dX6_sampled_102 : decode cX6_sampled 102 = .ok (.invokevirtual 115, 3) := by decide +kernel
theorem dX6_sampled_105 : decode cX6_sampled 105 = .ok (.ireturn, 1) := by decide +kernel
theorem dX6_mix_0 : decode cX6_mix 0 = .ok (.aload_n 0, 1) := by decide +kernel
theorem dX6_mix_1 : decode cX6_mix 1 = .ok (.iload_n 1, 1) := by decide +kernel
theorem dX6_mix_2 : decode cX6_mix 2 = .ok (.iload_n 2, 1) := by decide +kernel
theorem dX6_mix_3 : decode cX6_mix 3 = .ok (.invokevirtual 195, 3) := by decide +kernel
theorem dX6_mix_6 : decode cX6_mix 6 = .ok (.ifCond .le 10, 3) := by decide +kernel
theorem dX6_mix_9 : decode cX6_mix 9 = .ok (.aload_n 0, 1) := by decide +kernel
theorem dX6_mix_10 : decode cX6_mix 10 = .ok (.iconst 1, 1) := by decide +kernel
theorem dX6_mix_11 : decode cX6_mix 11 = .ok (.invokevirtual 99, 3) := by decide +kernel
theorem dX6_mix_14 : decode cX6_mix 14 = .ok (.i2l, 1) := by decide +kernel
theorem dX6_mix_15 : decode cX6_mix 15 = .ok (.lreturn, 1) := by decide +kernel
theorem dX6_mix_16 : decode cX6_mix 16 = .ok (.aload_n 0, 1) := by decide +kernel
theorem dX6_mix_17 : decode cX6_mix 17 = .ok (.iload_n 1, 1) := by decide +kernel
theorem dX6_mix_18 : decode cX6_mix 18 = .ok (.invokevirtual 89, 3) := by decide +kernel
theorem dX6_mix_21 : decode cX6_mix 21 = .ok (.ifCond .ne 10, 3) := by decide +kernel
theorem dX6_mix_24 : decode cX6_mix 24 = .ok (.aload_n 0, 1) := by decide +kernel
theorem dX6_mix_25 : decode cX6_mix 25 = .ok (.iconst 2, 1) := by decide +kernel
theorem dX6_mix_26 : decode cX6_mix 26 = .ok (.invokevirtual 99, 3) := by decide +kernel
theorem dX6_mix_29 : decode cX6_mix 29 = .ok (.i2l, 1) := by decide +kernel
theorem dX6_mix_30 : decode cX6_mix 30 = .ok (.lreturn, 1) := by decide +kernel
theorem dX6_mix_31 : decode cX6_mix 31 = .ok (.aload_n 0, 1) := by decide +kernel
theorem dX6_mix_32 : decode cX6_mix 32 = .ok (.iconst 0, 1) := by decide +kernel
theorem dX6_mix_33 : decode cX6_mix 33 = .ok (.putfield 57, 3) := by decide +kernel
theorem dX6_mix_36 : decode cX6_mix 36 = .ok (.aload_n 0, 1) := by decide +kernel
theorem dX6_mix_37 : decode cX6_mix 37 = .ok (.iload_n 1, 1) := by decide +kernel
theorem dX6_mix_38 : decode cX6_mix 38 = .ok (.iload_n 2, 1) := by decide +kernel
theorem dX6_mix_39 : decode cX6_mix 39 = .ok (.invokevirtual 147, 3) := by decide +kernel
theorem dX6_mix_42 : decode cX6_mix 42 = .ok (.lreturn, 1) := by decide +kernel
theorem dX6_commonKey_0 : decode cX6_commonKey 0 = .ok (.iload_n 1, 1) := by decide +kernel
theorem dX6_commonKey_1 : decode cX6_commonKey 1 = .ok (.invokestatic 96, 3) := by decide +kernel
theorem dX6_commonKey_4 : decode cX6_commonKey 4 = .ok (.ifCond .ne 9, 3) := by decide +kernel
theorem dX6_commonKey_7 : decode cX6_commonKey 7 = .ok (.aload_n 0, 1) := by decide +kernel
theorem dX6_commonKey_8 : decode cX6_commonKey 8 = .ok (.iconst 1, 1) := by decide +kernel
theorem dX6_commonKey_9 : decode cX6_commonKey 9 = .ok (.invokevirtual 99, 3) := by decide +kernel
theorem dX6_commonKey_12 : decode cX6_commonKey 12 = .ok (.ireturn, 1) := by decide +kernel
theorem dX6_commonKey_13 : decode cX6_commonKey 13 = .ok (.aload_n 0, 1) := by decide +kernel
theorem dX6_commonKey_14 : decode cX6_commonKey 14 = .ok (.iload_n 1, 1) := by decide +kernel
theorem dX6_commonKey_15 : decode cX6_commonKey 15 = .ok (.invokevirtual 89, 3) := by decide +kernel
theorem dX6_commonKey_18 : decode cX6_commonKey 18 = .ok (.ifCond .ne 9, 3) := by decide +kernel
theorem dX6_commonKey_21 : decode cX6_commonKey 21 = .ok (.aload_n 0, 1) := by decide +kernel
theorem dX6_commonKey_22 : decode cX6_commonKey 22 = .ok (.iconst 2, 1) := by decide +kernel
theorem dX6_commonKey_23 : decode cX6_commonKey 23 = .ok (.invokevirtual 99, 3) := by decide +kernel
theorem dX6_commonKey_26 : decode cX6_commonKey 26 = .ok (.ireturn, 1) := by decide +kernel
theorem dX6_commonKey_27 : decode cX6_commonKey 27 = .ok (.aload_n 0, 1) := by decide +kernel
theorem dX6_commonKey_28 : decode cX6_commonKey 28 = .ok (.iload_n 1, 1) := by decide +kernel
theorem dX6_commonKey_29 : decode cX6_commonKey 29 = .ok (.invokevirtual 172, 3) := by decide +kernel
theorem dX6_commonKey_32 : decode cX6_commonKey 32 = .ok (.aload_n 0, 1) := by decide +kernel
theorem dX6_commonKey_33 : decode cX6_commonKey 33 = .ok (.getfield 160, 3) := by decide +kernel
theorem dX6_commonKey_36 : decode cX6_commonKey 36 = .ok (.ifCond .ne 9, 3) := by decide +kernel
theorem dX6_commonKey_39 : decode cX6_commonKey 39 = .ok (.aload_n 0, 1) := by decide +kernel
theorem dX6_commonKey_40 : decode cX6_commonKey 40 = .ok (.iconst 3, 1) := by decide +kernel
theorem dX6_commonKey_41 : decode cX6_commonKey 41 = .ok (.invokevirtual 99, 3) := by decide +kernel
theorem dX6_commonKey_44 : decode cX6_commonKey 44 = .ok (.ireturn, 1) := by decide +kernel
theorem dX6_commonKey_45 : decode cX6_commonKey 45 = .ok (.aload_n 0, 1) := by decide +kernel
theorem dX6_commonKey_46 : decode cX6_commonKey 46 = .ok (.iconst 0, 1) := by decide +kernel
theorem dX6_commonKey_47 : decode cX6_commonKey 47 = .ok (.putfield 57, 3) := by decide +kernel
theorem dX6_commonKey_50 : decode cX6_commonKey 50 = .ok (.iconst (-1), 1) := by decide +kernel
theorem dX6_commonKey_51 : decode cX6_commonKey 51 = .ok (.istore_n 2, 1) := by decide +kernel
theorem dX6_commonKey_52 : decode cX6_commonKey 52 = .ok (.iconst 0, 1) := by decide +kernel
theorem dX6_commonKey_53 : decode cX6_commonKey 53 = .ok (.istore_n 3, 1) := by decide +kernel
theorem dX6_commonKey_54 : decode cX6_commonKey 54 = .ok (.iconst 0, 1) := by decide +kernel
theorem dX6_commonKey_55 : decode cX6_commonKey 55 = .ok (.istore 4, 2) := by decide +kernel
theorem dX6_commonKey_57 : decode cX6_commonKey 57 = .ok (.iload 4, 2) := by decide +kernel
theorem dX6_commonKey_59 : decode cX6_commonKey 59 = .ok (.bipush 100, 2) := by decide +kernel
theorem dX6_commonKey_61 : decode cX6_commonKey 61 = .ok (.if_icmp .ge 84, 3) := by decide +kernel
theorem dX6_commonKey_64 : decode cX6_commonKey 64 = .ok (.iconst 0, 1) := by decide +kernel
theorem dX6_commonKey_65 : decode cX6_commonKey 65 = .ok (.istore 5, 2) := by decide +kernel
theorem dX6_commonKey_67 : decode cX6_commonKey 67 = .ok (.iconst 0, 1) := by decide +kernel
theorem dX6_commonKey_68 : decode cX6_commonKey 68 = .ok (.istore 6, 2) := by decide +kernel
theorem dX6_commonKey_70 : decode cX6_commonKey 70 = .ok (.iload 6, 2) := by decide +kernel
theorem dX6_commonKey_72 : decode cX6_commonKey 72 = .ok (.aload_n 0, 1) := by decide +kernel
theorem dX6_commonKey_73 : decode cX6_commonKey 73 = .ok (.getfield 160, 3) := by decide +kernel
theorem dX6_commonKey_76 : decode cX6_commonKey 76 = .ok (.if_icmp .ge 37, 3) := by decide +kernel
theorem dX6_commonKey_79 : decode cX6_commonKey 79 = .ok (.iload 5, 2) := by decide +kernel
theorem dX6_commonKey_81 : decode cX6_commonKey 81 = .ok (.aload_n 0, 1) := by decide +kernel
theorem dX6_commonKey_82 : decode cX6_commonKey 82 = .ok (.iload_n 1, 1) := by decide +kernel
theorem dX6_commonKey_83 : decode cX6_commonKey 83 = .ok (.aload_n 0, 1) := by decide +kernel
theorem dX6_commonKey_84 : decode cX6_commonKey 84 = .ok (.getfield 16, 3) := by decide +kernel
theorem dX6_commonKey_87 : decode cX6_commonKey 87 = .ok (.iload 6, 2) := by decide +kernel
theorem dX6_commonKey_89 : decode cX6_commonKey 89 = .ok (.iaload, 1) := by decide +kernel
theorem dX6_commonKey_90 : decode cX6_commonKey 90 = .ok (.iconst 1, 1) := by decide +kernel
theorem dX6_commonKey_91 : decode cX6_commonKey 91 = .ok (.invokevirtual 115, 3) := by decide +kernel
theorem dX6_commonKey_94 : decode cX6_commonKey 94 = .ok (.iload 4, 2) := by decide +kernel
theorem dX6_commonKey_96 : decode cX6_commonKey 96 = .ok (.if_icmp .ne 7, 3) := by decide +kernel
theorem dX6_commonKey_99 : decode cX6_commonKey 99 = .ok (.iconst 1, 1) := by decide +kernel
theorem dX6_commonKey_100 : decode cX6_commonKey 100 = .ok (.goto 4, 3) := by decide +kernel
theorem dX6_commonKey_103 : decode cX6_commonKey 103 = .ok (.iconst 0, 1) := by decide +kernel
theorem dX6_commonKey_104 : decode cX6_commonKey 104 = .ok (.iadd, 1) := by decide +kernel
theorem dX6_commonKey_105 : decode cX6_commonKey 105 = .ok (.istore 5, 2) := by decide +kernel
theorem dX6_commonKey_107 : decode cX6_commonKey 107 = .ok (.iinc 6 1, 3) := by decide +kernel
theorem dX6_commonKey_110 : decode cX6_commonKey 110 = .ok (.goto (-40), 3) := by decide +kernel
theorem dX6_commonKey_113 : decode cX6_commonKey 113 = .ok (.iload 5, 2) := by decide +kernel
theorem dX6_commonKey_115 : decode cX6_commonKey 115 = .ok (.iload_n 3, 1) := by decide +kernel
theorem dX6_commonKey_116 : decode cX6_commonKey 116 = .ok (.if_icmp .le 8, 3) := by decide +kernel
theorem dX6_commonKey_119 : decode cX6_commonKey 119 = .ok (.iload 4, 2) := by decide +kernel
theorem dX6_commonKey_121 : decode cX6_commonKey 121 = .ok (.goto 4, 3) := by decide +kernel
theorem dX6_commonKey_124 : decode cX6_commonKey 124 = .ok (.iload_n 2, 1) := by decide +kernel
theorem dX6_commonKey_125 : decode cX6_commonKey 125 = .ok (.istore_n 2, 1) := by decide +kernel
theorem dX6_commonKey_126 : decode cX6_commonKey 126 = .ok (.iload 5, 2) := by decide +kernel
theorem dX6_commonKey_128 : decode cX6_commonKey 128 = .ok (.iload_n 3, 1) := by decide +kernel
theorem dX6_commonKey_129 : decode cX6_commonKey 129 = .ok (.if_icmp .le 8, 3) := by decide +kernel
theorem dX6_commonKey_132 : decode cX6_commonKey 132 = .ok (.iload 5, 2) := by decide +kernel
theorem dX6_commonKey_134 : decode cX6_commonKey 134 = .ok (.goto 4, 3) := by decide +kernel
theorem dX6_commonKey_137 : decode cX6_commonKey 137 = .ok (.iload_n 3, 1) := by decide +kernel
theorem dX6_commonKey_138 : decode cX6_commonKey 138 = .ok (.istore_n 3, 1) := by decide +kernel
theorem dX6_commonKey_139 : decode cX6_commonKey 139 = .ok (.iinc 4 1, 3) := by decide +kernel
theorem dX6_commonKey_142 : decode cX6_commonKey 142 = .ok (.goto (-85), 3) := by decide +kernel
theorem dX6_commonKey_145 : decode cX6_commonKey 145 = .ok (.iload_n 2, 1) := by decide +kernel
theorem dX6_commonKey_146 : decode cX6_commonKey 146 = .ok (.ireturn, 1) := by decide +kernel
theorem dX6_reason_0 : decode cX6_reason 0 = .ok (.aload_n 0, 1) := by decide +kernel
theorem dX6_reason_1 : decode cX6_reason 1 = .ok (.iload_n 1, 1) := by decide +kernel
theorem dX6_reason_2 : decode cX6_reason 2 = .ok (.iload_n 2, 1) := by decide +kernel
theorem dX6_reason_3 : decode cX6_reason 3 = .ok (.invokevirtual 195, 3) := by decide +kernel
theorem dX6_reason_6 : decode cX6_reason 6 = .ok (.ifCond .le 9, 3) := by decide +kernel
theorem dX6_reason_9 : decode cX6_reason 9 = .ok (.aload_n 0, 1) := by decide +kernel
theorem dX6_reason_10 : decode cX6_reason 10 = .ok (.iconst 1, 1) := by decide +kernel
theorem dX6_reason_11 : decode cX6_reason 11 = .ok (.invokevirtual 99, 3) := by decide +kernel
theorem dX6_reason_14 : decode cX6_reason 14 = .ok (.ireturn, 1) := by decide +kernel
theorem dX6_reason_15 : decode cX6_reason 15 = .ok (.aload_n 0, 1) := by decide +kernel
theorem dX6_reason_16 : decode cX6_reason 16 = .ok (.iload_n 1, 1) := by decide +kernel
theorem dX6_reason_17 : decode cX6_reason 17 = .ok (.invokevirtual 89, 3) := by decide +kernel
theorem dX6_reason_20 : decode cX6_reason 20 = .ok (.ifCond .ne 9, 3) := by decide +kernel
theorem dX6_reason_23 : decode cX6_reason 23 = .ok (.aload_n 0, 1) := by decide +kernel
theorem dX6_reason_24 : decode cX6_reason 24 = .ok (.iconst 2, 1) := by decide +kernel
theorem dX6_reason_25 : decode cX6_reason 25 = .ok (.invokevirtual 99, 3) := by decide +kernel
theorem dX6_reason_28 : decode cX6_reason 28 = .ok (.ireturn, 1) := by decide +kernel
theorem dX6_reason_29 : decode cX6_reason 29 = .ok (.aload_n 0, 1) := by decide +kernel
theorem dX6_reason_30 : decode cX6_reason 30 = .ok (.iconst 0, 1) := by decide +kernel
theorem dX6_reason_31 : decode cX6_reason 31 = .ok (.putfield 57, 3) := by decide +kernel
theorem dX6_reason_34 : decode cX6_reason 34 = .ok (.aload_n 0, 1) := by decide +kernel
theorem dX6_reason_35 : decode cX6_reason 35 = .ok (.iload_n 1, 1) := by decide +kernel
theorem dX6_reason_36 : decode cX6_reason 36 = .ok (.invokevirtual 172, 3) := by decide +kernel
theorem dX6_reason_39 : decode cX6_reason 39 = .ok (.aload_n 0, 1) := by decide +kernel
theorem dX6_reason_40 : decode cX6_reason 40 = .ok (.getfield 19, 3) := by decide +kernel
theorem dX6_reason_43 : decode cX6_reason 43 = .ok (.iload_n 2, 1) := by decide +kernel
theorem dX6_reason_44 : decode cX6_reason 44 = .ok (.iaload, 1) := by decide +kernel
theorem dX6_reason_45 : decode cX6_reason 45 = .ok (.ifCond .lt 5, 3) := by decide +kernel
theorem dX6_reason_48 : decode cX6_reason 48 = .ok (.iconst 0, 1) := by decide +kernel
theorem dX6_reason_49 : decode cX6_reason 49 = .ok (.ireturn, 1) := by decide +kernel
theorem dX6_reason_50 : decode cX6_reason 50 = .ok (.aload_n 0, 1) := by decide +kernel
theorem dX6_reason_51 : decode cX6_reason 51 = .ok (.iload_n 1, 1) := by decide +kernel
theorem dX6_reason_52 : decode cX6_reason 52 = .ok (.iload_n 2, 1) := by decide +kernel
theorem dX6_reason_53 : decode cX6_reason 53 = .ok (.invokevirtual 153, 3) := by decide +kernel
theorem dX6_reason_56 : decode cX6_reason 56 = .ok (.ifCond .ne 5, 3) := by decide +kernel
theorem dX6_reason_59 : decode cX6_reason 59 = .ok (.iconst 1, 1) := by decide +kernel
theorem dX6_reason_60 : decode cX6_reason 60 = .ok (.ireturn, 1) := by decide +kernel
theorem dX6_reason_61 : decode cX6_reason 61 = .ok (.aload_n 0, 1) := by decide +kernel
theorem dX6_reason_62 : decode cX6_reason 62 = .ok (.iload_n 1, 1) := by decide +kernel
theorem dX6_reason_63 : decode cX6_reason 63 = .ok (.iconst 1, 1) := by decide +kernel
theorem dX6_reason_64 : decode cX6_reason 64 = .ok (.invokevirtual 61, 3) := by decide +kernel
theorem dX6_reason_67 : decode cX6_reason 67 = .ok (.iconst 2, 1) := by decide +kernel
theorem dX6_reason_68 : decode cX6_reason 68 = .ok (.if_icmp .ne 24, 3) := by decide +kernel
theorem dX6_reason_71 : decode cX6_reason 71 = .ok (.aload_n 0, 1) := by decide +kernel
theorem dX6_reason_72 : decode cX6_reason 72 = .ok (.iload_n 1, 1) := by decide +kernel
theorem dX6_reason_73 : decode cX6_reason 73 = .ok (.iconst 5, 1) := by decide +kernel
theorem dX6_reason_74 : decode cX6_reason 74 = .ok (.aload_n 0, 1) := by decide +kernel
theorem dX6_reason_75 : decode cX6_reason 75 = .ok (.iload_n 1, 1) := by decide +kernel
theorem dX6_reason_76 : decode cX6_reason 76 = .ok (.iload_n 2, 1) := by decide +kernel
theorem dX6_reason_77 : decode cX6_reason 77 = .ok (.iconst 2, 1) := by decide +kernel
theorem dX6_reason_78 : decode cX6_reason 78 = .ok (.invokevirtual 115, 3) := by decide +kernel
theorem dX6_reason_81 : decode cX6_reason 81 = .ok (.iadd, 1) := by decide +kernel
theorem dX6_reason_82 : decode cX6_reason 82 = .ok (.invokevirtual 61, 3) := by decide +kernel
theorem dX6_reason_85 : decode cX6_reason 85 = .ok (.ifCond .ne 7, 3) := by decide +kernel
theorem dX6_reason_88 : decode cX6_reason 88 = .ok (.iconst 3, 1) := by decide +kernel
theorem dX6_reason_89 : decode cX6_reason 89 = .ok (.goto 4, 3) := by decide +kernel
theorem dX6_reason_92 : decode cX6_reason 92 = .ok (.iconst 2, 1) := by decide +kernel
theorem dX6_reason_93 : decode cX6_reason 93 = .ok (.ireturn, 1) := by decide +kernel
theorem dX6_before_0 : decode cX6_before 0 = .ok (.iconst 0, 1) := by decide +kernel
theorem dX6_before_1 : decode cX6_before 1 = .ok (.istore_n 3, 1) := by decide +kernel
theorem dX6_before_2 : decode cX6_before 2 = .ok (.iconst 0, 1) := by decide +kernel
theorem dX6_before_3 : decode cX6_before 3 = .ok (.istore 4, 2) := by decide +kernel
theorem dX6_before_5 : decode cX6_before 5 = .ok (.iload 4, 2) := by decide +kernel
theorem dX6_before_7 : decode cX6_before 7 = .ok (.aload_n 0, 1) := by decide +kernel
theorem dX6_before_8 : decode cX6_before 8 = .ok (.getfield 150, 3) := by decide +kernel
theorem dX6_before_11 : decode cX6_before 11 = .ok (.if_icmp .ge 61, 3) := by decide +kernel
theorem dX6_before_14 : decode cX6_before 14 = .ok (.aload_n 0, 1) := by decide +kernel
theorem dX6_before_15 : decode cX6_before 15 = .ok (.getfield 13, 3) := by decide +kernel
theorem dX6_before_18 : decode cX6_before 18 = .ok (.iload 4, 2) := by decide +kernel
theorem dX6_before_20 : decode cX6_before 20 = .ok (.iaload, 1) := by decide +kernel
theorem dX6_before_21 : decode cX6_before 21 = .ok (.iload_n 2, 1) := by decide +kernel
theorem dX6_before_22 : decode cX6_before 22 = .ok (.if_icmp .eq 50, 3) := by decide +kernel
theorem dX6_before_25 : decode cX6_before 25 = .ok (.iload_n 3, 1) := by decide +kernel
theorem dX6_before_26 : decode cX6_before 26 = .ok (.aload_n 0, 1) := by decide +kernel
theorem dX6_before_27 : decode cX6_before 27 = .ok (.iload_n 1, 1) := by decide +kernel
theorem dX6_before_28 : decode cX6_before 28 = .ok (.iconst 1, 1) := by decide +kernel
theorem dX6_before_29 : decode cX6_before 29 = .ok (.invokevirtual 61, 3) := by decide +kernel
theorem dX6_before_32 : decode cX6_before 32 = .ok (.iconst 2, 1) := by decide +kernel
theorem dX6_before_33 : decode cX6_before 33 = .ok (.if_icmp .ne 26, 3) := by decide +kernel
theorem dX6_before_36 : decode cX6_before 36 = .ok (.aload_n 0, 1) := by decide +kernel
theorem dX6_before_37 : decode cX6_before 37 = .ok (.iload_n 1, 1) := by decide +kernel
theorem dX6_before_38 : decode cX6_before 38 = .ok (.aload_n 0, 1) := by decide +kernel
theorem dX6_before_39 : decode cX6_before 39 = .ok (.getfield 13, 3) := by decide +kernel
theorem dX6_before_42 : decode cX6_before 42 = .ok (.iload 4, 2) := by decide +kernel
theorem dX6_before_44 : decode cX6_before 44 = .ok (.iaload, 1) := by decide +kernel
theorem dX6_before_45 : decode cX6_before 45 = .ok (.iconst 2, 1) := by decide +kernel
theorem dX6_before_46 : decode cX6_before 46 = .ok (.invokevirtual 115, 3) := by decide +kernel
theorem dX6_before_49 : decode cX6_before 49 = .ok (.aload_n 0, 1) := by decide +kernel
theorem dX6_before_50 : decode cX6_before 50 = .ok (.iload_n 1, 1) := by decide +kernel
theorem dX6_before_51 : decode cX6_before 51 = .ok (.iload_n 2, 1) := by decide +kernel
theorem dX6_before_52 : decode cX6_before 52 = .ok (.iconst 2, 1) := by decide +kernel
theorem dX6_before_53 : decode cX6_before 53 = .ok (.invokevirtual 115, 3) := by decide +kernel
theorem dX6_before_56 : decode cX6_before 56 = .ok (.if_icmp .ne 7, 3) := by decide +kernel
theorem dX6_before_59 : decode cX6_before 59 = .ok (.iconst 1, 1) := by decide +kernel
theorem dX6_before_60 : decode cX6_before 60 = .ok (.goto 4, 3) := by decide +kernel
theorem dX6_before_63 : decode cX6_before 63 = .ok (.iconst 0, 1) := by decide +kernel
theorem dX6_before_64 : decode cX6_before 64 = .ok (.iadd, 1) := by decide +kernel
theorem dX6_before_65 : decode cX6_before 65 = .ok (.istore_n 3, 1) := by decide +kernel
theorem dX6_before_66 : decode cX6_before 66 = .ok (.iinc 4 1, 3) := by decide +kernel
theorem dX6_before_69 : decode cX6_before 69 = .ok (.goto (-64), 3) := by decide +kernel
theorem dX6_before_72 : decode cX6_before 72 = .ok (.iload_n 3, 1) := by decide +kernel
theorem dX6_before_73 : decode cX6_before 73 = .ok (.ireturn, 1) := by decide +kernel
theorem dX6_needed_0 : decode cX6_needed 0 = .ok (.aload_n 0, 1) := by decide +kernel
theorem dX6_needed_1 : decode cX6_needed 1 = .ok (.iload_n 1, 1) := by decide +kernel
theorem dX6_needed_2 : decode cX6_needed 2 = .ok (.iload_n 2, 1) := by decide +kernel
theorem dX6_needed_3 : decode cX6_needed 3 = .ok (.invokevirtual 195, 3) := by decide +kernel
theorem dX6_needed_6 : decode cX6_needed 6 = .ok (.ifCond .le 9, 3) := by decide +kernel
theorem dX6_needed_9 : decode cX6_needed 9 = .ok (.aload_n 0, 1) := by decide +kernel
theorem dX6_needed_10 : decode cX6_needed 10 = .ok (.iconst 1, 1) := by decide +kernel
theorem dX6_needed_11 : decode cX6_needed 11 = .ok (.invokevirtual 99, 3) := by decide +kernel
theorem dX6_needed_14 : decode cX6_needed 14 = .ok (.ireturn, 1) := by decide +kernel
theorem dX6_needed_15 : decode cX6_needed 15 = .ok (.aload_n 0, 1) := by decide +kernel
theorem dX6_needed_16 : decode cX6_needed 16 = .ok (.iload_n 1, 1) := by decide +kernel
theorem dX6_needed_17 : decode cX6_needed 17 = .ok (.invokevirtual 89, 3) := by decide +kernel
theorem dX6_needed_20 : decode cX6_needed 20 = .ok (.ifCond .ne 9, 3) := by decide +kernel
theorem dX6_needed_23 : decode cX6_needed 23 = .ok (.aload_n 0, 1) := by decide +kernel
theorem dX6_needed_24 : decode cX6_needed 24 = .ok (.iconst 2, 1) := by decide +kernel
theorem dX6_needed_25 : decode cX6_needed 25 = .ok (.invokevirtual 99, 3) := by decide +kernel
theorem dX6_needed_28 : decode cX6_needed 28 = .ok (.ireturn, 1) := by decide +kernel
theorem dX6_needed_29 : decode cX6_needed 29 = .ok (.aload_n 0, 1) := by decide +kernel
theorem dX6_needed_30 : decode cX6_needed 30 = .ok (.iload_n 1, 1) := by decide +kernel
theorem dX6_needed_31 : decode cX6_needed 31 = .ok (.iload_n 2, 1) := by decide +kernel
theorem dX6_needed_32 : decode cX6_needed 32 = .ok (.invokevirtual 153, 3) := by decide +kernel
theorem dX6_needed_35 : decode cX6_needed 35 = .ok (.ifCond .ne 9, 3) := by decide +kernel
theorem dX6_needed_38 : decode cX6_needed 38 = .ok (.aload_n 0, 1) := by decide +kernel
theorem dX6_needed_39 : decode cX6_needed 39 = .ok (.iconst 3, 1) := by decide +kernel
theorem dX6_needed_40 : decode cX6_needed 40 = .ok (.invokevirtual 99, 3) := by decide +kernel
theorem dX6_needed_43 : decode cX6_needed 43 = .ok (.ireturn, 1) := by decide +kernel
theorem dX6_needed_44 : decode cX6_needed 44 = .ok (.aload_n 0, 1) := by decide +kernel
theorem dX6_needed_45 : decode cX6_needed 45 = .ok (.iconst 0, 1) := by decide +kernel
theorem dX6_needed_46 : decode cX6_needed 46 = .ok (.putfield 57, 3) := by decide +kernel
theorem dX6_needed_49 : decode cX6_needed 49 = .ok (.aload_n 0, 1) := by decide +kernel
theorem dX6_needed_50 : decode cX6_needed 50 = .ok (.iload_n 1, 1) := by decide +kernel
theorem dX6_needed_51 : decode cX6_needed 51 = .ok (.invokevirtual 172, 3) := by decide +kernel
theorem dX6_needed_54 : decode cX6_needed 54 = .ok (.aload_n 0, 1) := by decide +kernel
theorem dX6_needed_55 : decode cX6_needed 55 = .ok (.iload_n 1, 1) := by decide +kernel
theorem dX6_needed_56 : decode cX6_needed 56 = .ok (.iload_n 2, 1) := by decide +kernel
theorem dX6_needed_57 : decode cX6_needed 57 = .ok (.invokevirtual 202, 3) := by decide +kernel
theorem dX6_needed_60 : decode cX6_needed 60 = .ok (.iconst 1, 1) := by decide +kernel
theorem dX6_needed_61 : decode cX6_needed 61 = .ok (.iadd, 1) := by decide +kernel
theorem dX6_needed_62 : decode cX6_needed 62 = .ok (.ireturn, 1) := by decide +kernel
theorem dX6_margin_0 : decode cX6_margin 0 = .ok (.aload_n 0, 1) := by decide +kernel
theorem dX6_margin_1 : decode cX6_margin 1 = .ok (.iload_n 1, 1) := by decide +kernel
theorem dX6_margin_2 : decode cX6_margin 2 = .ok (.iload_n 2, 1) := by decide +kernel
theorem dX6_margin_3 : decode cX6_margin 3 = .ok (.invokevirtual 195, 3) := by decide +kernel
theorem dX6_margin_6 : decode cX6_margin 6 = .ok (.ifCond .le 9, 3) := by decide +kernel
theorem dX6_margin_9 : decode cX6_margin 9 = .ok (.aload_n 0, 1) := by decide +kernel
theorem dX6_margin_10 : decode cX6_margin 10 = .ok (.iconst 1, 1) := by decide +kernel
theorem dX6_margin_11 : decode cX6_margin 11 = .ok (.invokevirtual 99, 3) := by decide +kernel
theorem dX6_margin_14 : decode cX6_margin 14 = .ok (.ireturn, 1) := by decide +kernel
theorem dX6_margin_15 : decode cX6_margin 15 = .ok (.aload_n 0, 1) := by decide +kernel
theorem dX6_margin_16 : decode cX6_margin 16 = .ok (.iload_n 1, 1) := by decide +kernel
theorem dX6_margin_17 : decode cX6_margin 17 = .ok (.invokevirtual 89, 3) := by decide +kernel
theorem dX6_margin_20 : decode cX6_margin 20 = .ok (.ifCond .ne 9, 3) := by decide +kernel
theorem dX6_margin_23 : decode cX6_margin 23 = .ok (.aload_n 0, 1) := by decide +kernel
theorem dX6_margin_24 : decode cX6_margin 24 = .ok (.iconst 2, 1) := by decide +kernel
theorem dX6_margin_25 : decode cX6_margin 25 = .ok (.invokevirtual 99, 3) := by decide +kernel
theorem dX6_margin_28 : decode cX6_margin 28 = .ok (.ireturn, 1) := by decide +kernel
theorem dX6_margin_29 : decode cX6_margin 29 = .ok (.aload_n 0, 1) := by decide +kernel
theorem dX6_margin_30 : decode cX6_margin 30 = .ok (.iload_n 1, 1) := by decide +kernel
theorem dX6_margin_31 : decode cX6_margin 31 = .ok (.invokevirtual 172, 3) := by decide +kernel
theorem dX6_margin_34 : decode cX6_margin 34 = .ok (.aload_n 0, 1) := by decide +kernel
theorem dX6_margin_35 : decode cX6_margin 35 = .ok (.getfield 19, 3) := by decide +kernel
theorem dX6_margin_38 : decode cX6_margin 38 = .ok (.iload_n 2, 1) := by decide +kernel
theorem dX6_margin_39 : decode cX6_margin 39 = .ok (.iaload, 1) := by decide +kernel
theorem dX6_margin_40 : decode cX6_margin 40 = .ok (.ifCond .ge 9, 3) := by decide +kernel
theorem dX6_margin_43 : decode cX6_margin 43 = .ok (.aload_n 0, 1) := by decide +kernel
theorem dX6_margin_44 : decode cX6_margin 44 = .ok (.iconst 3, 1) := by decide +kernel
theorem dX6_margin_45 : decode cX6_margin 45 = .ok (.invokevirtual 99, 3) := by decide +kernel
theorem dX6_margin_48 : decode cX6_margin 48 = .ok (.ireturn, 1) := by decide +kernel
theorem dX6_margin_49 : decode cX6_margin 49 = .ok (.aload_n 0, 1) := by decide +kernel
theorem dX6_margin_50 : decode cX6_margin 50 = .ok (.iconst 0, 1) := by decide +kernel
theorem dX6_margin_51 : decode cX6_margin 51 = .ok (.putfield 57, 3) := by decide +kernel
theorem dX6_margin_54 : decode cX6_margin 54 = .ok (.aload_n 0, 1) := by decide +kernel
theorem dX6_margin_55 : decode cX6_margin 55 = .ok (.iload_n 1, 1) := by decide +kernel
theorem dX6_margin_56 : decode cX6_margin 56 = .ok (.iconst 1, 1) := by decide +kernel
theorem dX6_margin_57 : decode cX6_margin 57 = .ok (.invokevirtual 61, 3) := by decide +kernel
theorem dX6_margin_60 : decode cX6_margin 60 = .ok (.iconst 2, 1) := by decide +kernel
theorem dX6_margin_61 : decode cX6_margin 61 = .ok (.if_icmp .ne 20, 3) := by decide +kernel
theorem dX6_margin_64 : decode cX6_margin 64 = .ok (.aload_n 0, 1) := by decide +kernel
theorem dX6_margin_65 : decode cX6_margin 65 = .ok (.iload_n 1, 1) := by decide +kernel
theorem dX6_margin_66 : decode cX6_margin 66 = .ok (.iconst 5, 1) := by decide +kernel
theorem dX6_margin_67 : decode cX6_margin 67 = .ok (.aload_n 0, 1) := by decide +kernel
theorem dX6_margin_68 : decode cX6_margin 68 = .ok (.iload_n 1, 1) := by decide +kernel
theorem dX6_margin_69 : decode cX6_margin 69 = .ok (.iload_n 2, 1) := by decide +kernel
theorem dX6_margin_70 : decode cX6_margin 70 = .ok (.iconst 2, 1) := by decide +kernel
theorem dX6_margin_71 : decode cX6_margin 71 = .ok (.invokevirtual 115, 3) := by decide +kernel
theorem dX6_margin_74 : decode cX6_margin 74 = .ok (.iadd, 1) := by decide +kernel
theorem dX6_margin_75 : decode cX6_margin 75 = .ok (.invokevirtual 61, 3) := by decide +kernel
theorem dX6_margin_78 : decode cX6_margin 78 = .ok (.goto 9, 3) := by decide +kernel
theorem dX6_margin_81 : decode cX6_margin 81 = .ok (.aload_n 0, 1) := by decide +kernel
theorem dX6_margin_82 : decode cX6_margin 82 = .ok (.iload_n 1, 1) := by decide +kernel
theorem dX6_margin_83 : decode cX6_margin 83 = .ok (.iconst 2, 1) := by decide +kernel
theorem dX6_margin_84 : decode cX6_margin 84 = .ok (.invokevirtual 61, 3) := by decide +kernel
theorem dX6_margin_87 : decode cX6_margin 87 = .ok (.istore_n 3, 1) := by decide +kernel
theorem dX6_margin_88 : decode cX6_margin 88 = .ok (.iload_n 3, 1) := by decide +kernel
theorem dX6_margin_89 : decode cX6_margin 89 = .ok (.aload_n 0, 1) := by decide +kernel
theorem dX6_margin_90 : decode cX6_margin 90 = .ok (.iload_n 1, 1) := by decide +kernel
theorem dX6_margin_91 : decode cX6_margin 91 = .ok (.iload_n 2, 1) := by decide +kernel
theorem dX6_margin_92 : decode cX6_margin 92 = .ok (.invokevirtual 202, 3) := by decide +kernel
theorem dX6_margin_95 : decode cX6_margin 95 = .ok (.isub, 1) := by decide +kernel
theorem dX6_margin_96 : decode cX6_margin 96 = .ok (.ireturn, 1) := by decide +kernel
theorem dX6_stratum_0 : decode cX6_stratum 0 = .ok (.iload_n 1, 1) := by decide +kernel
theorem dX6_stratum_1 : decode cX6_stratum 1 = .ok (.invokestatic 96, 3) := by decide +kernel
theorem dX6_stratum_4 : decode cX6_stratum 4 = .ok (.ifCond .eq 10, 3) := by decide +kernel
theorem dX6_stratum_7 : decode cX6_stratum 7 = .ok (.iload_n 2, 1) := by decide +kernel
theorem dX6_stratum_8 : decode cX6_stratum 8 = .ok (.invokestatic 71, 3) := by decide +kernel
theorem dX6_stratum_11 : decode cX6_stratum 11 = .ok (.ifCond .ne 9, 3) := by decide +kernel
theorem dX6_stratum_14 : decode cX6_stratum 14 = .ok (.aload_n 0, 1) := by decide +kernel
theorem dX6_stratum_15 : decode cX6_stratum 15 = .ok (.iconst 1, 1) := by decide +kernel
theorem dX6_stratum_16 : decode cX6_stratum 16 = .ok (.invokevirtual 99, 3) := by decide +kernel
theorem dX6_stratum_19 : decode cX6_stratum 19 = .ok (.ireturn, 1) := by decide +kernel
theorem dX6_stratum_20 : decode cX6_stratum 20 = .ok (.iload_n 3, 1) := by decide +kernel
theorem dX6_stratum_21 : decode cX6_stratum 21 = .ok (.i2l, 1) := by decide +kernel
theorem dX6_stratum_22 : decode cX6_stratum 22 = .ok (.lconst 0, 1) := by decide +kernel
theorem dX6_stratum_23 : decode cX6_stratum 23 = .ok (.ldc2_w 198, 3) := by decide +kernel
theorem dX6_stratum_26 : decode cX6_stratum 26 = .ok (.invokestatic 67, 3) := by decide +kernel
theorem dX6_stratum_29 : decode cX6_stratum 29 = .ok (.ifCond .ne 9, 3) := by decide +kernel
theorem dX6_stratum_32 : decode cX6_stratum 32 = .ok (.aload_n 0, 1) := by decide +kernel
theorem dX6_stratum_33 : decode cX6_stratum 33 = .ok (.iconst 2, 1) := by decide +kernel
theorem dX6_stratum_34 : decode cX6_stratum 34 = .ok (.invokevirtual 99, 3) := by decide +kernel
theorem dX6_stratum_37 : decode cX6_stratum 37 = .ok (.ireturn, 1) := by decide +kernel
theorem dX6_stratum_38 : decode cX6_stratum 38 = .ok (.aload_n 0, 1) := by decide +kernel
theorem dX6_stratum_39 : decode cX6_stratum 39 = .ok (.iload_n 1, 1) := by decide +kernel
theorem dX6_stratum_40 : decode cX6_stratum 40 = .ok (.invokevirtual 89, 3) := by decide +kernel
theorem dX6_stratum_43 : decode cX6_stratum 43 = .ok (.ifCond .ne 9, 3) := by decide +kernel
theorem dX6_stratum_46 : decode cX6_stratum 46 = .ok (.aload_n 0, 1) := by decide +kernel
theorem dX6_stratum_47 : decode cX6_stratum 47 = .ok (.iconst 3, 1) := by decide +kernel
theorem dX6_stratum_48 : decode cX6_stratum 48 = .ok (.invokevirtual 99, 3) := by decide +kernel
theorem dX6_stratum_51 : decode cX6_stratum 51 = .ok (.ireturn, 1) := by decide +kernel
theorem dX6_stratum_52 : decode cX6_stratum 52 = .ok (.aload_n 0, 1) := by decide +kernel
theorem dX6_stratum_53 : decode cX6_stratum 53 = .ok (.iconst 0, 1) := by decide +kernel
theorem dX6_stratum_54 : decode cX6_stratum 54 = .ok (.putfield 57, 3) := by decide +kernel
theorem dX6_stratum_57 : decode cX6_stratum 57 = .ok (.aload_n 0, 1) := by decide +kernel
theorem dX6_stratum_58 : decode cX6_stratum 58 = .ok (.iload_n 1, 1) := by decide +kernel
theorem dX6_stratum_59 : decode cX6_stratum 59 = .ok (.invokevirtual 172, 3) := by decide +kernel
theorem dX6_stratum_62 : decode cX6_stratum 62 = .ok (.iconst 0, 1) := by decide +kernel
theorem dX6_stratum_63 : decode cX6_stratum 63 = .ok (.istore 4, 2) := by decide +kernel
theorem dX6_stratum_65 : decode cX6_stratum 65 = .ok (.iconst 0, 1) := by decide +kernel
theorem dX6_stratum_66 : decode cX6_stratum 66 = .ok (.istore 5, 2) := by decide +kernel
theorem dX6_stratum_68 : decode cX6_stratum 68 = .ok (.iload 5, 2) := by decide +kernel
theorem dX6_stratum_70 : decode cX6_stratum 70 = .ok (.aload_n 0, 1) := by decide +kernel
theorem dX6_stratum_71 : decode cX6_stratum 71 = .ok (.iload_n 1, 1) := by decide +kernel
theorem dX6_stratum_72 : decode cX6_stratum 72 = .ok (.invokevirtual 92, 3) := by decide +kernel
theorem dX6_stratum_75 : decode cX6_stratum 75 = .ok (.if_icmp .ge 79, 3) := by decide +kernel
theorem dX6_stratum_78 : decode cX6_stratum 78 = .ok (.aload_n 0, 1) := by decide +kernel
theorem dX6_stratum_79 : decode cX6_stratum 79 = .ok (.iload_n 1, 1) := by decide +kernel
theorem dX6_stratum_80 : decode cX6_stratum 80 = .ok (.iload 5, 2) := by decide +kernel
theorem dX6_stratum_82 : decode cX6_stratum 82 = .ok (.iconst 2, 1) := by decide +kernel
theorem dX6_stratum_83 : decode cX6_stratum 83 = .ok (.invokevirtual 115, 3) := by decide +kernel
theorem dX6_stratum_86 : decode cX6_stratum 86 = .ok (.iload_n 2, 1) := by decide +kernel
theorem dX6_stratum_87 : decode cX6_stratum 87 = .ok (.if_icmp .ne 61, 3) := by decide +kernel
theorem dX6_stratum_90 : decode cX6_stratum 90 = .ok (.iload_n 3, 1) := by decide +kernel
theorem dX6_stratum_91 : decode cX6_stratum 91 = .ok (.iconst 2, 1) := by decide +kernel
theorem dX6_stratum_92 : decode cX6_stratum 92 = .ok (.irem, 1) := by decide +kernel
theorem dX6_stratum_93 : decode cX6_stratum 93 = .ok (.iconst 1, 1) := by decide +kernel
theorem dX6_stratum_94 : decode cX6_stratum 94 = .ok (.if_icmp .ne 16, 3) := by decide +kernel
theorem dX6_stratum_97 : decode cX6_stratum 97 = .ok (.aload_n 0, 1) := by decide +kernel
theorem dX6_stratum_98 : decode cX6_stratum 98 = .ok (.getfield 19, 3) := by decide +kernel
theorem dX6_stratum_101 : decode cX6_stratum 101 = .ok (.iload 5, 2) := by decide +kernel
theorem dX6_stratum_103 : decode cX6_stratum 103 = .ok (.iaload, 1) := by decide +kernel
theorem dX6_stratum_104 : decode cX6_stratum 104 = .ok (.ifCond .ge 6, 3) := by decide +kernel
theorem dX6_stratum_107 : decode cX6_stratum 107 = .ok (.goto 41, 3) := by decide +kernel
theorem dX6_stratum_110 : decode cX6_stratum 110 = .ok (.iload 4, 2) := by decide +kernel
theorem dX6_stratum_112 : decode cX6_stratum 112 = .ok (.iload_n 3, 1) := by decide +kernel
theorem dX6_stratum_113 : decode cX6_stratum 113 = .ok (.iconst 2, 1) := by decide +kernel
theorem dX6_stratum_114 : decode cX6_stratum 114 = .ok (.if_icmp .ge 7, 3) := by decide +kernel
theorem dX6_stratum_117 : decode cX6_stratum 117 = .ok (.iconst 1, 1) := by decide +kernel
theorem dX6_stratum_118 : decode cX6_stratum 118 = .ok (.goto 27, 3) := by decide +kernel
theorem dX6_stratum_121 : decode cX6_stratum 121 = .ok (.iload_n 3, 1) := by decide +kernel
theorem dX6_stratum_122 : decode cX6_stratum 122 = .ok (.iconst 4, 1) := by decide +kernel
theorem dX6_stratum_123 : decode cX6_stratum 123 = .ok (.if_icmp .ge 14, 3) := by decide +kernel
theorem dX6_stratum_126 : decode cX6_stratum 126 = .ok (.aload_n 0, 1) := by decide +kernel
theorem dX6_stratum_127 : decode cX6_stratum 127 = .ok (.iload_n 1, 1) := by decide +kernel
theorem dX6_stratum_128 : decode cX6_stratum 128 = .ok (.iload 5, 2) := by decide +kernel
theorem dX6_stratum_130 : decode cX6_stratum 130 = .ok (.iconst 4, 1) := by decide +kernel
theorem dX6_stratum_131 : decode cX6_stratum 131 = .ok (.invokevirtual 115, 3) := by decide +kernel
theorem dX6_stratum_134 : decode cX6_stratum 134 = .ok (.goto 11, 3) := by decide +kernel
theorem dX6_stratum_137 : decode cX6_stratum 137 = .ok (.aload_n 0, 1) := by decide +kernel
theorem dX6_stratum_138 : decode cX6_stratum 138 = .ok (.iload_n 1, 1) := by decide +kernel
theorem dX6_stratum_139 : decode cX6_stratum 139 = .ok (.iload 5, 2) := by decide +kernel
theorem dX6_stratum_141 : decode cX6_stratum 141 = .ok (.iconst 3, 1) := by decide +kernel
theorem dX6_stratum_142 : decode cX6_stratum 142 = .ok (.invokevirtual 115, 3) := by decide +kernel
theorem dX6_stratum_145 : decode cX6_stratum 145 = .ok (.iadd, 1) := by decide +kernel
theorem dX6_stratum_146 : decode cX6_stratum 146 = .ok (.istore 4, 2) := by decide +kernel
theorem dX6_stratum_148 : decode cX6_stratum 148 = .ok (.iinc 5 1, 3) := by decide +kernel
theorem dX6_stratum_151 : decode cX6_stratum 151 = .ok (.goto (-83), 3) := by decide +kernel
theorem dX6_stratum_154 : decode cX6_stratum 154 = .ok (.iload 4, 2) := by decide +kernel
theorem dX6_stratum_156 : decode cX6_stratum 156 = .ok (.ireturn, 1) := by decide +kernel
theorem dX6_numberOf_0 : decode cX6_numberOf 0 = .ok (.aload_n 0, 1) := by decide +kernel
theorem dX6_numberOf_1 : decode cX6_numberOf 1 = .ok (.iload_n 1, 1) := by decide +kernel
theorem dX6_numberOf_2 : decode cX6_numberOf 2 = .ok (.iload_n 2, 1) := by decide +kernel
theorem dX6_numberOf_3 : decode cX6_numberOf 3 = .ok (.iconst 1, 1) := by decide +kernel
theorem dX6_numberOf_4 : decode cX6_numberOf 4 = .ok (.invokevirtual 115, 3) := by decide +kernel
theorem dX6_numberOf_7 : decode cX6_numberOf 7 = .ok (.i2l, 1) := by decide +kernel
theorem dX6_numberOf_8 : decode cX6_numberOf 8 = .ok (.aload_n 0, 1) := by decide +kernel
theorem dX6_numberOf_9 : decode cX6_numberOf 9 = .ok (.getfield 205, 3) := by decide +kernel
theorem dX6_numberOf_12 : decode cX6_numberOf 12 = .ok (.i2l, 1) := by decide +kernel
theorem dX6_numberOf_13 : decode cX6_numberOf 13 = .ok (.aload_n 0, 1) := by decide +kernel
theorem dX6_numberOf_14 : decode cX6_numberOf 14 = .ok (.getfield 208, 3) := by decide +kernel
theorem dX6_numberOf_17 : decode cX6_numberOf 17 = .ok (.i2l, 1) := by decide +kernel
theorem dX6_numberOf_18 : decode cX6_numberOf 18 = .ok (.invokestatic 67, 3) := by decide +kernel
theorem dX6_numberOf_21 : decode cX6_numberOf 21 = .ok (.ifCond .eq 25, 3) := by decide +kernel
theorem dX6_numberOf_24 : decode cX6_numberOf 24 = .ok (.aload_n 0, 1) := by decide +kernel
theorem dX6_numberOf_25 : decode cX6_numberOf 25 = .ok (.iload_n 1, 1) := by decide +kernel
theorem dX6_numberOf_26 : decode cX6_numberOf 26 = .ok (.iload_n 2, 1) := by decide +kernel
theorem dX6_numberOf_27 : decode cX6_numberOf 27 = .ok (.aload_n 0, 1) := by decide +kernel
theorem dX6_numberOf_28 : decode cX6_numberOf 28 = .ok (.getfield 211, 3) := by decide +kernel
theorem dX6_numberOf_31 : decode cX6_numberOf 31 = .ok (.ifCond .eq 7, 3) := by decide +kernel
theorem dX6_numberOf_34 : decode cX6_numberOf 34 = .ok (.iconst 3, 1) := by decide +kernel
theorem dX6_numberOf_35 : decode cX6_numberOf 35 = .ok (.goto 4, 3) := by decide +kernel
theorem dX6_numberOf_38 : decode cX6_numberOf 38 = .ok (.iconst 4, 1) := by decide +kernel
theorem dX6_numberOf_39 : decode cX6_numberOf 39 = .ok (.invokevirtual 115, 3) := by decide +kernel
theorem dX6_numberOf_42 : decode cX6_numberOf 42 = .ok (.i2l, 1) := by decide +kernel
theorem dX6_numberOf_43 : decode cX6_numberOf 43 = .ok (.goto 4, 3) := by decide +kernel
theorem dX6_numberOf_46 : decode cX6_numberOf 46 = .ok (.lconst 0, 1) := by decide +kernel
theorem dX6_numberOf_47 : decode cX6_numberOf 47 = .ok (.lreturn, 1) := by decide +kernel
theorem dX6_rounded_0 : decode cX6_rounded 0 = .ok (.ldc2_w 215, 3) := by decide +kernel
theorem dX6_rounded_3 : decode cX6_rounded 3 = .ok (.lload_n 0, 1) := by decide +kernel
theorem dX6_rounded_4 : decode cX6_rounded 4 = .ok (.lmul, 1) := by decide +kernel
theorem dX6_rounded_5 : decode cX6_rounded 5 = .ok (.lload_n 2, 1) := by decide +kernel
theorem dX6_rounded_6 : decode cX6_rounded 6 = .ok (.ladd, 1) := by decide +kernel
theorem dX6_rounded_7 : decode cX6_rounded 7 = .ok (.ldc2_w 215, 3) := by decide +kernel
theorem dX6_rounded_10 : decode cX6_rounded 10 = .ok (.lload_n 2, 1) := by decide +kernel
theorem dX6_rounded_11 : decode cX6_rounded 11 = .ok (.lmul, 1) := by decide +kernel
theorem dX6_rounded_12 : decode cX6_rounded 12 = .ok (.invokestatic 217, 3) := by decide +kernel
theorem dX6_rounded_15 : decode cX6_rounded 15 = .ok (.lreturn, 1) := by decide +kernel
theorem dX6_countOf_0 : decode cX6_countOf 0 = .ok (.aload_n 0, 1) := by decide +kernel
theorem dX6_countOf_1 : decode cX6_countOf 1 = .ok (.iload_n 1, 1) := by decide +kernel
theorem dX6_countOf_2 : decode cX6_countOf 2 = .ok (.iconst 1, 1) := by decide +kernel
theorem dX6_countOf_3 : decode cX6_countOf 3 = .ok (.invokevirtual 61, 3) := by decide +kernel
theorem dX6_countOf_6 : decode cX6_countOf 6 = .ok (.iconst 3, 1) := by decide +kernel
theorem dX6_countOf_7 : decode cX6_countOf 7 = .ok (.if_icmp .eq 10, 3) := by decide +kernel
theorem dX6_countOf_10 : decode cX6_countOf 10 = .ok (.aload_n 0, 1) := by decide +kernel
theorem dX6_countOf_11 : decode cX6_countOf 11 = .ok (.iload_n 1, 1) := by decide +kernel
theorem dX6_countOf_12 : decode cX6_countOf 12 = .ok (.invokevirtual 92, 3) := by decide +kernel
theorem dX6_countOf_15 : decode cX6_countOf 15 = .ok (.i2l, 1) := by decide +kernel
theorem dX6_countOf_16 : decode cX6_countOf 16 = .ok (.lreturn, 1) := by decide +kernel
theorem dX6_countOf_17 : decode cX6_countOf 17 = .ok (.aload_n 0, 1) := by decide +kernel
theorem dX6_countOf_18 : decode cX6_countOf 18 = .ok (.invokevirtual 175, 3) := by decide +kernel
theorem dX6_countOf_21 : decode cX6_countOf 21 = .ok (.ifCond .eq 11, 3) := by decide +kernel
theorem dX6_countOf_24 : decode cX6_countOf 24 = .ok (.aload_n 0, 1) := by decide +kernel
theorem dX6_countOf_25 : decode cX6_countOf 25 = .ok (.getfield 160, 3) := by decide +kernel
theorem dX6_countOf_28 : decode cX6_countOf 28 = .ok (.i2l, 1) := by decide +kernel
theorem dX6_countOf_29 : decode cX6_countOf 29 = .ok (.goto 29, 3) := by decide +kernel
theorem dX6_countOf_32 : decode cX6_countOf 32 = .ok (.aload_n 0, 1) := by decide +kernel
theorem dX6_countOf_33 : decode cX6_countOf 33 = .ok (.getfield 160, 3) := by decide +kernel
theorem dX6_countOf_36 : decode cX6_countOf 36 = .ok (.i2l, 1) := by decide +kernel
theorem dX6_countOf_37 : decode cX6_countOf 37 = .ok (.ldc2_w 223, 3) := by decide +kernel
theorem dX6_countOf_40 : decode cX6_countOf 40 = .ok (.lmul, 1) := by decide +kernel
theorem dX6_countOf_41 : decode cX6_countOf 41 = .ok (.aload_n 0, 1) := by decide +kernel
theorem dX6_countOf_42 : decode cX6_countOf 42 = .ok (.iload_n 1, 1) := by decide +kernel
theorem dX6_countOf_43 : decode cX6_countOf 43 = .ok (.aload_n 0, 1) := by decide +kernel
theorem dX6_countOf_44 : decode cX6_countOf 44 = .ok (.getfield 13, 3) := by decide +kernel
theorem dX6_countOf_47 : decode cX6_countOf 47 = .ok (.aload_n 0, 1) := by decide +kernel
theorem dX6_countOf_48 : decode cX6_countOf 48 = .ok (.getfield 160, 3) := by decide +kernel
theorem dX6_countOf_51 : decode cX6_countOf 51 = .ok (.iaload, 1) := by decide +kernel
theorem dX6_countOf_52 : decode cX6_countOf 52 = .ok (.invokevirtual 147, 3) := by decide +kernel
theorem dX6_countOf_55 : decode cX6_countOf 55 = .ok (.invokestatic 225, 3) := by decide +kernel
theorem dX6_countOf_58 : decode cX6_countOf 58 = .ok (.lreturn, 1) := by decide +kernel
theorem dX6_sampleTotal_0 : decode cX6_sampleTotal 0 = .ok (.lconst 0, 1) := by decide +kernel
theorem dX6_sampleTotal_1 : decode cX6_sampleTotal 1 = .ok (.lstore_n 3, 1) := by decide +kernel
theorem dX6_sampleTotal_2 : decode cX6_sampleTotal 2 = .ok (.iconst 0, 1) := by decide +kernel
theorem dX6_sampleTotal_3 : decode cX6_sampleTotal 3 = .ok (.istore 5, 2) := by decide +kernel
theorem dX6_sampleTotal_5 : decode cX6_sampleTotal 5 = .ok (.iload 5, 2) := by decide +kernel
theorem dX6_sampleTotal_7 : decode cX6_sampleTotal 7 = .ok (.aload_n 0, 1) := by decide +kernel
theorem dX6_sampleTotal_8 : decode cX6_sampleTotal 8 = .ok (.getfield 160, 3) := by decide +kernel
theorem dX6_sampleTotal_11 : decode cX6_sampleTotal 11 = .ok (.if_icmp .ge 49, 3) := by decide +kernel
theorem dX6_sampleTotal_14 : decode cX6_sampleTotal 14 = .ok (.lload_n 3, 1) := by decide +kernel
theorem dX6_sampleTotal_15 : decode cX6_sampleTotal 15 = .ok (.iload_n 2, 1) := by decide +kernel
theorem dX6_sampleTotal_16 : decode cX6_sampleTotal 16 = .ok (.ifCond .lt 20, 3) := by decide +kernel
theorem dX6_sampleTotal_19 : decode cX6_sampleTotal 19 = .ok (.aload_n 0, 1) := by decide +kernel
theorem dX6_sampleTotal_20 : decode cX6_sampleTotal 20 = .ok (.iload_n 1, 1) := by decide +kernel
theorem dX6_sampleTotal_21 : decode cX6_sampleTotal 21 = .ok (.aload_n 0, 1) := by decide +kernel
theorem dX6_sampleTotal_22 : decode cX6_sampleTotal 22 = .ok (.getfield 16, 3) := by decide +kernel
theorem dX6_sampleTotal_25 : decode cX6_sampleTotal 25 = .ok (.iload 5, 2) := by decide +kernel
theorem dX6_sampleTotal_27 : decode cX6_sampleTotal 27 = .ok (.iaload, 1) := by decide +kernel
theorem dX6_sampleTotal_28 : decode cX6_sampleTotal 28 = .ok (.iconst 2, 1) := by decide +kernel
theorem dX6_sampleTotal_29 : decode cX6_sampleTotal 29 = .ok (.invokevirtual 115, 3) := by decide +kernel
theorem dX6_sampleTotal_32 : decode cX6_sampleTotal 32 = .ok (.iload_n 2, 1) := by decide +kernel
theorem dX6_sampleTotal_33 : decode cX6_sampleTotal 33 = .ok (.if_icmp .ne 18, 3) := by decide +kernel
theorem dX6_sampleTotal_36 : decode cX6_sampleTotal 36 = .ok (.aload_n 0, 1) := by decide +kernel
theorem dX6_sampleTotal_37 : decode cX6_sampleTotal 37 = .ok (.iload_n 1, 1) := by decide +kernel
theorem dX6_sampleTotal_38 : decode cX6_sampleTotal 38 = .ok (.aload_n 0, 1) := by decide +kernel
theorem dX6_sampleTotal_39 : decode cX6_sampleTotal 39 = .ok (.getfield 16, 3) := by decide +kernel
theorem dX6_sampleTotal_42 : decode cX6_sampleTotal 42 = .ok (.iload 5, 2) := by decide +kernel
theorem dX6_sampleTotal_44 : decode cX6_sampleTotal 44 = .ok (.iaload, 1) := by decide +kernel
theorem dX6_sampleTotal_45 : decode cX6_sampleTotal 45 = .ok (.invokevirtual 228, 3) := by decide +kernel
theorem dX6_sampleTotal_48 : decode cX6_sampleTotal 48 = .ok (.goto 4, 3) := by decide +kernel
theorem dX6_sampleTotal_51 : decode cX6_sampleTotal 51 = .ok (.lconst 0, 1) := by decide +kernel
theorem dX6_sampleTotal_52 : decode cX6_sampleTotal 52 = .ok (.ladd, 1) := by decide +kernel
theorem dX6_sampleTotal_53 : decode cX6_sampleTotal 53 = .ok (.lstore_n 3, 1) := by decide +kernel
theorem dX6_sampleTotal_54 : decode cX6_sampleTotal 54 = .ok (.iinc 5 1, 3) := by decide +kernel
theorem dX6_sampleTotal_57 : decode cX6_sampleTotal 57 = .ok (.goto (-52), 3) := by decide +kernel
theorem dX6_sampleTotal_60 : decode cX6_sampleTotal 60 = .ok (.lload_n 3, 1) := by decide +kernel
theorem dX6_sampleTotal_61 : decode cX6_sampleTotal 61 = .ok (.lreturn, 1) := by decide +kernel
theorem dX6_weightedTotal_0 : decode cX6_weightedTotal 0 = .ok (.lconst 0, 1) := by decide +kernel
theorem dX6_weightedTotal_1 : decode cX6_weightedTotal 1 = .ok (.lstore_n 2, 1) := by decide +kernel
theorem dX6_weightedTotal_2 : decode cX6_weightedTotal 2 = .ok (.iconst 0, 1) := by decide +kernel
theorem dX6_weightedTotal_3 : decode cX6_weightedTotal 3 = .ok (.istore 4, 2) := by decide +kernel
theorem dX6_weightedTotal_5 : decode cX6_weightedTotal 5 = .ok (.iload 4, 2) := by decide +kernel
theorem dX6_weightedTotal_7 : decode cX6_weightedTotal 7 = .ok (.aload_n 0, 1) := by decide +kernel
theorem dX6_weightedTotal_8 : decode cX6_weightedTotal 8 = .ok (.getfield 160, 3) := by decide +kernel
theorem dX6_weightedTotal_11 : decode cX6_weightedTotal 11 = .ok (.if_icmp .ge 110, 3) := by decide +kernel
theorem dX6_weightedTotal_14 : decode cX6_weightedTotal 14 = .ok (.aload_n 0, 1) := by decide +kernel
theorem dX6_weightedTotal_15 : decode cX6_weightedTotal 15 = .ok (.iload_n 1, 1) := by decide +kernel
theorem dX6_weightedTotal_16 : decode cX6_weightedTotal 16 = .ok (.aload_n 0, 1) := by decide +kernel
theorem dX6_weightedTotal_17 : decode cX6_weightedTotal 17 = .ok (.getfield 16, 3) := by decide +kernel
theorem dX6_weightedTotal_20 : decode cX6_weightedTotal 20 = .ok (.iload 4, 2) := by decide +kernel
theorem dX6_weightedTotal_22 : decode cX6_weightedTotal 22 = .ok (.iaload, 1) := by decide +kernel
theorem dX6_weightedTotal_23 : decode cX6_weightedTotal 23 = .ok (.invokevirtual 228, 3) := by decide +kernel
theorem dX6_weightedTotal_26 : decode cX6_weightedTotal 26 = .ok (.lstore 5, 2) := by decide +kernel
theorem dX6_weightedTotal_28 : decode cX6_weightedTotal 28 = .ok (.aload_n 0, 1) := by decide +kernel
theorem dX6_weightedTotal_29 : decode cX6_weightedTotal 29 = .ok (.invokevirtual 175, 3) := by decide +kernel
theorem dX6_weightedTotal_32 : decode cX6_weightedTotal 32 = .ok (.ifCond .ne 78, 3) := by decide +kernel
theorem dX6_weightedTotal_35 : decode cX6_weightedTotal 35 = .ok (.aload_n 0, 1) := by decide +kernel
theorem dX6_weightedTotal_36 : decode cX6_weightedTotal 36 = .ok (.getfield 13, 3) := by decide +kernel
theorem dX6_weightedTotal_39 : decode cX6_weightedTotal 39 = .ok (.aload_n 0, 1) := by decide +kernel
theorem dX6_weightedTotal_40 : decode cX6_weightedTotal 40 = .ok (.getfield 160, 3) := by decide +kernel
theorem dX6_weightedTotal_43 : decode cX6_weightedTotal 43 = .ok (.iaload, 1) := by decide +kernel
theorem dX6_weightedTotal_44 : decode cX6_weightedTotal 44 = .ok (.istore 7, 2) := by decide +kernel
theorem dX6_weightedTotal_46 : decode cX6_weightedTotal 46 = .ok (.ldc2_w 223, 3) := by decide +kernel
theorem dX6_weightedTotal_49 : decode cX6_weightedTotal 49 = .ok (.aload_n 0, 1) := by decide +kernel
theorem dX6_weightedTotal_50 : decode cX6_weightedTotal 50 = .ok (.iload_n 1, 1) := by decide +kernel
theorem dX6_weightedTotal_51 : decode cX6_weightedTotal 51 = .ok (.iload 7, 2) := by decide +kernel
theorem dX6_weightedTotal_53 : decode cX6_weightedTotal 53 = .ok (.iconst 3, 1) := by decide +kernel
theorem dX6_weightedTotal_54 : decode cX6_weightedTotal 54 = .ok (.invokevirtual 115, 3) := by decide +kernel
theorem dX6_weightedTotal_57 : decode cX6_weightedTotal 57 = .ok (.i2l, 1) := by decide +kernel
theorem dX6_weightedTotal_58 : decode cX6_weightedTotal 58 = .ok (.lmul, 1) := by decide +kernel
theorem dX6_weightedTotal_59 : decode cX6_weightedTotal 59 = .ok (.lstore 8, 2) := by decide +kernel
theorem dX6_weightedTotal_61 : decode cX6_weightedTotal 61 = .ok (.aload_n 0, 1) := by decide +kernel
theorem dX6_weightedTotal_62 : decode cX6_weightedTotal 62 = .ok (.iload_n 1, 1) := by decide +kernel
theorem dX6_weightedTotal_63 : decode cX6_weightedTotal 63 = .ok (.aload_n 0, 1) := by decide +kernel
theorem dX6_weightedTotal_64 : decode cX6_weightedTotal 64 = .ok (.getfield 16, 3) := by decide +kernel
theorem dX6_weightedTotal_67 : decode cX6_weightedTotal 67 = .ok (.iload 4, 2) := by decide +kernel
theorem dX6_weightedTotal_69 : decode cX6_weightedTotal 69 = .ok (.iaload, 1) := by decide +kernel
theorem dX6_weightedTotal_70 : decode cX6_weightedTotal 70 = .ok (.iconst 3, 1) := by decide +kernel
theorem dX6_weightedTotal_71 : decode cX6_weightedTotal 71 = .ok (.invokevirtual 115, 3) := by decide +kernel
theorem dX6_weightedTotal_74 : decode cX6_weightedTotal 74 = .ok (.i2l, 1) := by decide +kernel
theorem dX6_weightedTotal_75 : decode cX6_weightedTotal 75 = .ok (.aload_n 0, 1) := by decide +kernel
theorem dX6_weightedTotal_76 : decode cX6_weightedTotal 76 = .ok (.iload_n 1, 1) := by decide +kernel
theorem dX6_weightedTotal_77 : decode cX6_weightedTotal 77 = .ok (.iload 7, 2) := by decide +kernel
theorem dX6_weightedTotal_79 : decode cX6_weightedTotal 79 = .ok (.invokevirtual 147, 3) := by decide +kernel
theorem dX6_weightedTotal_82 : decode cX6_weightedTotal 82 = .ok (.lmul, 1) := by decide +kernel
theorem dX6_weightedTotal_83 : decode cX6_weightedTotal 83 = .ok (.lstore 10, 2) := by decide +kernel
theorem dX6_weightedTotal_85 : decode cX6_weightedTotal 85 = .ok (.lload 10, 2) := by decide +kernel
theorem dX6_weightedTotal_87 : decode cX6_weightedTotal 87 = .ok (.lload 8, 2) := by decide +kernel
theorem dX6_weightedTotal_89 : decode cX6_weightedTotal 89 = .ok (.lcmp, 1) := by decide +kernel
theorem dX6_weightedTotal_90 : decode cX6_weightedTotal 90 = .ok (.ifCond .lt 8, 3) := by decide +kernel
theorem dX6_weightedTotal_93 : decode cX6_weightedTotal 93 = .ok (.lload 5, 2) := by decide +kernel
theorem dX6_weightedTotal_95 : decode cX6_weightedTotal 95 = .ok (.goto 13, 3) := by decide +kernel
theorem dX6_weightedTotal_98 : decode cX6_weightedTotal 98 = .ok (.lload 5, 2) := by decide +kernel
theorem dX6_weightedTotal_100 : decode cX6_weightedTotal 100 = .ok (.lload 8, 2) := by decide +kernel
theorem dX6_weightedTotal_102 : decode cX6_weightedTotal 102 = .ok (.lmul, 1) := by decide +kernel
theorem dX6_weightedTotal_103 : decode cX6_weightedTotal 103 = .ok (.lload 10, 2) := by decide +kernel
theorem dX6_weightedTotal_105 : decode cX6_weightedTotal 105 = .ok (.invokestatic 225, 3) := by decide +kernel
theorem dX6_weightedTotal_108 : decode cX6_weightedTotal 108 = .ok (.lstore 5, 2) := by decide +kernel
theorem dX6_weightedTotal_110 : decode cX6_weightedTotal 110 = .ok (.lload_n 2, 1) := by decide +kernel
theorem dX6_weightedTotal_111 : decode cX6_weightedTotal 111 = .ok (.lload 5, 2) := by decide +kernel
theorem dX6_weightedTotal_113 : decode cX6_weightedTotal 113 = .ok (.ladd, 1) := by decide +kernel
theorem dX6_weightedTotal_114 : decode cX6_weightedTotal 114 = .ok (.lstore_n 2, 1) := by decide +kernel
theorem dX6_weightedTotal_115 : decode cX6_weightedTotal 115 = .ok (.iinc 4 1, 3) := by decide +kernel
theorem dX6_weightedTotal_118 : decode cX6_weightedTotal 118 = .ok (.goto (-113), 3) := by decide +kernel
theorem dX6_weightedTotal_121 : decode cX6_weightedTotal 121 = .ok (.lload_n 2, 1) := by decide +kernel
theorem dX6_weightedTotal_122 : decode cX6_weightedTotal 122 = .ok (.lreturn, 1) := by decide +kernel
theorem dX6_stratifiedTotal_0 : decode cX6_stratifiedTotal 0 = .ok (.lconst 0, 1) := by decide +kernel
theorem dX6_stratifiedTotal_1 : decode cX6_stratifiedTotal 1 = .ok (.lstore_n 2, 1) := by decide +kernel
theorem dX6_stratifiedTotal_2 : decode cX6_stratifiedTotal 2 = .ok (.iconst 0, 1) := by decide +kernel
theorem dX6_stratifiedTotal_3 : decode cX6_stratifiedTotal 3 = .ok (.istore 4, 2) := by decide +kernel
theorem dX6_stratifiedTotal_5 : decode cX6_stratifiedTotal 5 = .ok (.iload 4, 2) := by decide +kernel
theorem dX6_stratifiedTotal_7 : decode cX6_stratifiedTotal 7 = .ok (.iconst 4, 1) := by decide +kernel
theorem dX6_stratifiedTotal_8 : decode cX6_stratifiedTotal 8 = .ok (.if_icmp .ge 102, 3) := by decide +kernel
theorem dX6_stratifiedTotal_11 : decode cX6_stratifiedTotal 11 = .ok (.iconst 0, 1) := by decide +kernel
theorem dX6_stratifiedTotal_12 : decode cX6_stratifiedTotal 12 = .ok (.istore 5, 2) := by decide +kernel
theorem dX6_stratifiedTotal_14 : decode cX6_stratifiedTotal 14 = .ok (.iconst 0, 1) := by decide +kernel
theorem dX6_stratifiedTotal_15 : decode cX6_stratifiedTotal 15 = .ok (.istore 6, 2) := by decide +kernel
theorem dX6_stratifiedTotal_17 : decode cX6_stratifiedTotal 17 = .ok (.iconst 0, 1) := by decide +kernel
theorem dX6_stratifiedTotal_18 : decode cX6_stratifiedTotal 18 = .ok (.istore 7, 2) := by decide +kernel
theorem dX6_stratifiedTotal_20 : decode cX6_stratifiedTotal 20 = .ok (.iload 7, 2) := by decide +kernel
theorem dX6_stratifiedTotal_22 : decode cX6_stratifiedTotal 22 = .ok (.aload_n 0, 1) := by decide +kernel
theorem dX6_stratifiedTotal_23 : decode cX6_stratifiedTotal 23 = .ok (.iload_n 1, 1) := by decide +kernel
theorem dX6_stratifiedTotal_24 : decode cX6_stratifiedTotal 24 = .ok (.invokevirtual 92, 3) := by decide +kernel
theorem dX6_stratifiedTotal_27 : decode cX6_stratifiedTotal 27 = .ok (.if_icmp .ge 48, 3) := by decide +kernel
theorem dX6_stratifiedTotal_30 : decode cX6_stratifiedTotal 30 = .ok (.aload_n 0, 1) := by decide +kernel
theorem dX6_stratifiedTotal_31 : decode cX6_stratifiedTotal 31 = .ok (.iload_n 1, 1) := by decide +kernel
theorem dX6_stratifiedTotal_32 : decode cX6_stratifiedTotal 32 = .ok (.iload 7, 2) := by decide +kernel
theorem dX6_stratifiedTotal_34 : decode cX6_stratifiedTotal 34 = .ok (.iconst 2, 1) := by decide +kernel
theorem dX6_stratifiedTotal_35 : decode cX6_stratifiedTotal 35 = .ok (.invokevirtual 115, 3) := by decide +kernel
theorem dX6_stratifiedTotal_38 : decode cX6_stratifiedTotal 38 = .ok (.iload 4, 2) := by decide +kernel
theorem dX6_stratifiedTotal_40 : decode cX6_stratifiedTotal 40 = .ok (.if_icmp .eq 6, 3) := by decide +kernel
theorem dX6_stratifiedTotal_43 : decode cX6_stratifiedTotal 43 = .ok (.goto 26, 3) := by decide +kernel
theorem dX6_stratifiedTotal_46 : decode cX6_stratifiedTotal 46 = .ok (.iinc 5 1, 3) := by decide +kernel
theorem dX6_stratifiedTotal_49 : decode cX6_stratifiedTotal 49 = .ok (.iload 6, 2) := by decide +kernel
theorem dX6_stratifiedTotal_51 : decode cX6_stratifiedTotal 51 = .ok (.aload_n 0, 1) := by decide +kernel
theorem dX6_stratifiedTotal_52 : decode cX6_stratifiedTotal 52 = .ok (.getfield 19, 3) := by decide +kernel
theorem dX6_stratifiedTotal_55 : decode cX6_stratifiedTotal 55 = .ok (.iload 7, 2) := by decide +kernel
theorem dX6_stratifiedTotal_57 : decode cX6_stratifiedTotal 57 = .ok (.iaload, 1) := by decide +kernel
theorem dX6_stratifiedTotal_58 : decode cX6_stratifiedTotal 58 = .ok (.ifCond .lt 7, 3) := by decide +kernel
theorem dX6_stratifiedTotal_61 : decode cX6_stratifiedTotal 61 = .ok (.iconst 1, 1) := by decide +kernel
theorem dX6_stratifiedTotal_62 : decode cX6_stratifiedTotal 62 = .ok (.goto 4, 3) := by decide +kernel
theorem dX6_stratifiedTotal_65 : decode cX6_stratifiedTotal 65 = .ok (.iconst 0, 1) := by decide +kernel
theorem dX6_stratifiedTotal_66 : decode cX6_stratifiedTotal 66 = .ok (.iadd, 1) := by decide +kernel
theorem dX6_stratifiedTotal_67 : decode cX6_stratifiedTotal 67 = .ok (.istore 6, 2) := by decide +kernel
theorem dX6_stratifiedTotal_69 : decode cX6_stratifiedTotal 69 = .ok (.iinc 7 1, 3) := by decide +kernel
theorem dX6_stratifiedTotal_72 : decode cX6_stratifiedTotal 72 = .ok (.goto (-52), 3) := by decide +kernel
theorem dX6_stratifiedTotal_75 : decode cX6_stratifiedTotal 75 = .ok (.lload_n 2, 1) := by decide +kernel
theorem dX6_stratifiedTotal_76 : decode cX6_stratifiedTotal 76 = .ok (.iload 6, 2) := by decide +kernel
theorem dX6_stratifiedTotal_78 : decode cX6_stratifiedTotal 78 = .ok (.ifCond .ne 7, 3) := by decide +kernel
theorem dX6_stratifiedTotal_81 : decode cX6_stratifiedTotal 81 = .ok (.lconst 0, 1) := by decide +kernel
theorem dX6_stratifiedTotal_82 : decode cX6_stratifiedTotal 82 = .ok (.goto 20, 3) := by decide +kernel
theorem dX6_stratifiedTotal_85 : decode cX6_stratifiedTotal 85 = .ok (.aload_n 0, 1) := by decide +kernel
theorem dX6_stratifiedTotal_86 : decode cX6_stratifiedTotal 86 = .ok (.iload_n 1, 1) := by decide +kernel
theorem dX6_stratifiedTotal_87 : decode cX6_stratifiedTotal 87 = .ok (.iload 4, 2) := by decide +kernel
theorem dX6_stratifiedTotal_89 : decode cX6_stratifiedTotal 89 = .ok (.invokevirtual 231, 3) := by decide +kernel
theorem dX6_stratifiedTotal_92 : decode cX6_stratifiedTotal 92 = .ok (.iload 5, 2) := by decide +kernel
theorem dX6_stratifiedTotal_94 : decode cX6_stratifiedTotal 94 = .ok (.i2l, 1) := by decide +kernel
theorem dX6_stratifiedTotal_95 : decode cX6_stratifiedTotal 95 = .ok (.lmul, 1) := by decide +kernel
theorem dX6_stratifiedTotal_96 : decode cX6_stratifiedTotal 96 = .ok (.iload 6, 2) := by decide +kernel
theorem dX6_stratifiedTotal_98 : decode cX6_stratifiedTotal 98 = .ok (.i2l, 1) := by decide +kernel
theorem dX6_stratifiedTotal_99 : decode cX6_stratifiedTotal 99 = .ok (.invokestatic 225, 3) := by decide +kernel
theorem dX6_stratifiedTotal_102 : decode cX6_stratifiedTotal 102 = .ok (.ladd, 1) := by decide +kernel
theorem dX6_stratifiedTotal_103 : decode cX6_stratifiedTotal 103 = .ok (.lstore_n 2, 1) := by decide +kernel
theorem dX6_stratifiedTotal_104 : decode cX6_stratifiedTotal 104 = .ok (.iinc 4 1, 3) := by decide +kernel
theorem dX6_stratifiedTotal_107 : decode cX6_stratifiedTotal 107 = .ok (.goto (-102), 3) := by decide +kernel
theorem dX6_stratifiedTotal_110 : decode cX6_stratifiedTotal 110 = .ok (.lload_n 2, 1) := by decide +kernel
theorem dX6_stratifiedTotal_111 : decode cX6_stratifiedTotal 111 = .ok (.lreturn, 1) := by decide +kernel
theorem dX6_total_0 : decode cX6_total 0 = .ok (.aload_n 0, 1) := by decide +kernel
theorem dX6_total_1 : decode cX6_total 1 = .ok (.getfield 160, 3) := by decide +kernel
theorem dX6_total_4 : decode cX6_total 4 = .ok (.ifCond .ne 5, 3) := by decide +kernel
theorem dX6_total_7 : decode cX6_total 7 = .ok (.lconst 0, 1) := by decide +kernel
theorem dX6_total_8 : decode cX6_total 8 = .ok (.lreturn, 1) := by decide +kernel
theorem dX6_total_9 : decode cX6_total 9 = .ok (.aload_n 0, 1) := by decide +kernel
theorem dX6_total_10 : decode cX6_total 10 = .ok (.iload_n 1, 1) := by decide +kernel
theorem dX6_total_11 : decode cX6_total 11 = .ok (.iconst 1, 1) := by decide +kernel
theorem dX6_total_12 : decode cX6_total 12 = .ok (.invokevirtual 61, 3) := by decide +kernel
theorem dX6_total_15 : decode cX6_total 15 = .ok (.tableswitch 59 0 2 #[25, 47, 53], 25) := by decide +kernel
theorem dX6_total_40 : decode cX6_total 40 = .ok (.aload_n 0, 1) := by decide +kernel
theorem dX6_total_41 : decode cX6_total 41 = .ok (.iload_n 1, 1) := by decide +kernel
theorem dX6_total_42 : decode cX6_total 42 = .ok (.iconst (-1), 1) := by decide +kernel
theorem dX6_total_43 : decode cX6_total 43 = .ok (.invokevirtual 231, 3) := by decide +kernel
theorem dX6_total_46 : decode cX6_total 46 = .ok (.aload_n 0, 1) := by decide +kernel
theorem dX6_total_47 : decode cX6_total 47 = .ok (.iload_n 1, 1) := by decide +kernel
theorem dX6_total_48 : decode cX6_total 48 = .ok (.invokevirtual 92, 3) := by decide +kernel
theorem dX6_total_51 : decode cX6_total 51 = .ok (.i2l, 1) := by decide +kernel
theorem dX6_total_52 : decode cX6_total 52 = .ok (.lmul, 1) := by decide +kernel
theorem dX6_total_53 : decode cX6_total 53 = .ok (.aload_n 0, 1) := by decide +kernel
theorem dX6_total_54 : decode cX6_total 54 = .ok (.getfield 160, 3) := by decide +kernel
theorem dX6_total_57 : decode cX6_total 57 = .ok (.i2l, 1) := by decide +kernel
theorem dX6_total_58 : decode cX6_total 58 = .ok (.invokestatic 225, 3) := by decide +kernel
theorem dX6_total_61 : decode cX6_total 61 = .ok (.lreturn, 1) := by decide +kernel
theorem dX6_total_62 : decode cX6_total 62 = .ok (.aload_n 0, 1) := by decide +kernel
theorem dX6_total_63 : decode cX6_total 63 = .ok (.iload_n 1, 1) := by decide +kernel
theorem dX6_total_64 : decode cX6_total 64 = .ok (.invokevirtual 234, 3) := by decide +kernel
theorem dX6_total_67 : decode cX6_total 67 = .ok (.lreturn, 1) := by decide +kernel
theorem dX6_total_68 : decode cX6_total 68 = .ok (.aload_n 0, 1) := by decide +kernel
theorem dX6_total_69 : decode cX6_total 69 = .ok (.iload_n 1, 1) := by decide +kernel
theorem dX6_total_70 : decode cX6_total 70 = .ok (.invokevirtual 238, 3) := by decide +kernel
theorem dX6_total_73 : decode cX6_total 73 = .ok (.lreturn, 1) := by decide +kernel
theorem dX6_total_74 : decode cX6_total 74 = .ok (.aload_n 0, 1) := by decide +kernel
theorem dX6_total_75 : decode cX6_total 75 = .ok (.iload_n 1, 1) := by decide +kernel
theorem dX6_total_76 : decode cX6_total 76 = .ok (.iconst (-1), 1) := by decide +kernel
theorem dX6_total_77 : decode cX6_total 77 = .ok (.invokevirtual 231, 3) := by decide +kernel
theorem dX6_total_80 : decode cX6_total 80 = .ok (.aload_n 0, 1) := by decide +kernel
theorem dX6_total_81 : decode cX6_total 81 = .ok (.iload_n 1, 1) := by decide +kernel
theorem dX6_total_82 : decode cX6_total 82 = .ok (.invokevirtual 241, 3) := by decide +kernel
theorem dX6_total_85 : decode cX6_total 85 = .ok (.lmul, 1) := by decide +kernel
theorem dX6_total_86 : decode cX6_total 86 = .ok (.aload_n 0, 1) := by decide +kernel
theorem dX6_total_87 : decode cX6_total 87 = .ok (.getfield 160, 3) := by decide +kernel
theorem dX6_total_90 : decode cX6_total 90 = .ok (.i2l, 1) := by decide +kernel
theorem dX6_total_91 : decode cX6_total 91 = .ok (.invokestatic 225, 3) := by decide +kernel
theorem dX6_total_94 : decode cX6_total 94 = .ok (.lreturn, 1) := by decide +kernel
theorem dX6_totals_0 : decode cX6_totals 0 = .ok (.aload_n 0, 1) := by decide +kernel
theorem dX6_totals_1 : decode cX6_totals 1 = .ok (.iload_n 1, 1) := by decide +kernel
theorem dX6_totals_2 : decode cX6_totals 2 = .ok (.putfield 205, 3) := by decide +kernel
theorem dX6_totals_5 : decode cX6_totals 5 = .ok (.aload_n 0, 1) := by decide +kernel
theorem dX6_totals_6 : decode cX6_totals 6 = .ok (.iload_n 2, 1) := by decide +kernel
theorem dX6_totals_7 : decode cX6_totals 7 = .ok (.putfield 208, 3) := by decide +kernel
theorem dX6_totals_10 : decode cX6_totals 10 = .ok (.aload_n 0, 1) := by decide +kernel
theorem dX6_totals_11 : decode cX6_totals 11 = .ok (.iload_n 3, 1) := by decide +kernel
theorem dX6_totals_12 : decode cX6_totals 12 = .ok (.putfield 211, 3) := by decide +kernel
theorem dX6_totals_15 : decode cX6_totals 15 = .ok (.return_, 1) := by decide +kernel
theorem dX6_estimateKeys_0 : decode cX6_estimateKeys 0 = .ok (.iload_n 1, 1) := by decide +kernel
theorem dX6_estimateKeys_1 : decode cX6_estimateKeys 1 = .ok (.invokestatic 96, 3) := by decide +kernel
theorem dX6_estimateKeys_4 : decode cX6_estimateKeys 4 = .ok (.ifCond .ne 10, 3) := by decide +kernel
theorem dX6_estimateKeys_7 : decode cX6_estimateKeys 7 = .ok (.aload_n 0, 1) := by decide +kernel
theorem dX6_estimateKeys_8 : decode cX6_estimateKeys 8 = .ok (.iconst 1, 1) := by decide +kernel
theorem dX6_estimateKeys_9 : decode cX6_estimateKeys 9 = .ok (.invokevirtual 99, 3) := by decide +kernel
theorem dX6_estimateKeys_12 : decode cX6_estimateKeys 12 = .ok (.i2l, 1) := by decide +kernel
theorem dX6_estimateKeys_13 : decode cX6_estimateKeys 13 = .ok (.lreturn, 1) := by decide +kernel
theorem dX6_estimateKeys_14 : decode cX6_estimateKeys 14 = .ok (.aload_n 0, 1) := by decide +kernel
theorem dX6_estimateKeys_15 : decode cX6_estimateKeys 15 = .ok (.iload_n 1, 1) := by decide +kernel
theorem dX6_estimateKeys_16 : decode cX6_estimateKeys 16 = .ok (.invokevirtual 89, 3) := by decide +kernel
theorem dX6_estimateKeys_19 : decode cX6_estimateKeys 19 = .ok (.ifCond .ne 10, 3) := by decide +kernel
theorem dX6_estimateKeys_22 : decode cX6_estimateKeys 22 = .ok (.aload_n 0, 1) := by decide +kernel
theorem dX6_estimateKeys_23 : decode cX6_estimateKeys 23 = .ok (.iconst 2, 1) := by decide +kernel
theorem dX6_estimateKeys_24 : decode cX6_estimateKeys 24 = .ok (.invokevirtual 99, 3) := by decide +kernel
theorem dX6_estimateKeys_27 : decode cX6_estimateKeys 27 = .ok (.i2l, 1) := by decide +kernel
theorem dX6_estimateKeys_28 : decode cX6_estimateKeys 28 = .ok (.lreturn, 1) := by decide +kernel
theorem dX6_estimateKeys_29 : decode cX6_estimateKeys 29 = .ok (.aload_n 0, 1) := by decide +kernel
theorem dX6_estimateKeys_30 : decode cX6_estimateKeys 30 = .ok (.iconst 0, 1) := by decide +kernel
theorem dX6_estimateKeys_31 : decode cX6_estimateKeys 31 = .ok (.putfield 57, 3) := by decide +kernel
theorem dX6_estimateKeys_34 : decode cX6_estimateKeys 34 = .ok (.aload_n 0, 1) := by decide +kernel
theorem dX6_estimateKeys_35 : decode cX6_estimateKeys 35 = .ok (.iload_n 1, 1) := by decide +kernel
theorem dX6_estimateKeys_36 : decode cX6_estimateKeys 36 = .ok (.invokevirtual 172, 3) := by decide +kernel
theorem dX6_estimateKeys_39 : decode cX6_estimateKeys 39 = .ok (.aload_n 0, 1) := by decide +kernel
theorem dX6_estimateKeys_40 : decode cX6_estimateKeys 40 = .ok (.iload_n 2, 1) := by decide +kernel
theorem dX6_estimateKeys_41 : decode cX6_estimateKeys 41 = .ok (.iload_n 3, 1) := by decide +kernel
theorem dX6_estimateKeys_42 : decode cX6_estimateKeys 42 = .ok (.iload 4, 2) := by decide +kernel
theorem dX6_estimateKeys_44 : decode cX6_estimateKeys 44 = .ok (.invokevirtual 244, 3) := by decide +kernel
theorem dX6_estimateKeys_47 : decode cX6_estimateKeys 47 = .ok (.aload_n 0, 1) := by decide +kernel
theorem dX6_estimateKeys_48 : decode cX6_estimateKeys 48 = .ok (.iload_n 1, 1) := by decide +kernel
theorem dX6_estimateKeys_49 : decode cX6_estimateKeys 49 = .ok (.invokevirtual 248, 3) := by decide +kernel
theorem dX6_estimateKeys_52 : decode cX6_estimateKeys 52 = .ok (.lreturn, 1) := by decide +kernel
theorem dX6_estimate_0 : decode cX6_estimate 0 = .ok (.iload_n 1, 1) := by decide +kernel
theorem dX6_estimate_1 : decode cX6_estimate 1 = .ok (.invokestatic 96, 3) := by decide +kernel
theorem dX6_estimate_4 : decode cX6_estimate 4 = .ok (.ifCond .ne 10, 3) := by decide +kernel
theorem dX6_estimate_7 : decode cX6_estimate 7 = .ok (.aload_n 0, 1) := by decide +kernel
theorem dX6_estimate_8 : decode cX6_estimate 8 = .ok (.iconst 1, 1) := by decide +kernel
theorem dX6_estimate_9 : decode cX6_estimate 9 = .ok (.invokevirtual 99, 3) := by decide +kernel
theorem dX6_estimate_12 : decode cX6_estimate 12 = .ok (.i2l, 1) := by decide +kernel
theorem dX6_estimate_13 : decode cX6_estimate 13 = .ok (.lreturn, 1) := by decide +kernel
theorem dX6_estimate_14 : decode cX6_estimate 14 = .ok (.iload_n 2, 1) := by decide +kernel
theorem dX6_estimate_15 : decode cX6_estimate 15 = .ok (.i2l, 1) := by decide +kernel
theorem dX6_estimate_16 : decode cX6_estimate 16 = .ok (.lconst 0, 1) := by decide +kernel
theorem dX6_estimate_17 : decode cX6_estimate 17 = .ok (.ldc2_w 215, 3) := by decide +kernel
theorem dX6_estimate_20 : decode cX6_estimate 20 = .ok (.invokestatic 67, 3) := by decide +kernel
theorem dX6_estimate_23 : decode cX6_estimate 23 = .ok (.ifCond .ne 10, 3) := by decide +kernel
theorem dX6_estimate_26 : decode cX6_estimate 26 = .ok (.aload_n 0, 1) := by decide +kernel
theorem dX6_estimate_27 : decode cX6_estimate 27 = .ok (.iconst 2, 1) := by decide +kernel
theorem dX6_estimate_28 : decode cX6_estimate 28 = .ok (.invokevirtual 99, 3) := by decide +kernel
theorem dX6_estimate_31 : decode cX6_estimate 31 = .ok (.i2l, 1) := by decide +kernel
theorem dX6_estimate_32 : decode cX6_estimate 32 = .ok (.lreturn, 1) := by decide +kernel
theorem dX6_estimate_33 : decode cX6_estimate 33 = .ok (.aload_n 0, 1) := by decide +kernel
theorem dX6_estimate_34 : decode cX6_estimate 34 = .ok (.iload_n 1, 1) := by decide +kernel
theorem dX6_estimate_35 : decode cX6_estimate 35 = .ok (.invokevirtual 89, 3) := by decide +kernel
theorem dX6_estimate_38 : decode cX6_estimate 38 = .ok (.ifCond .ne 10, 3) := by decide +kernel
theorem dX6_estimate_41 : decode cX6_estimate 41 = .ok (.aload_n 0, 1) := by decide +kernel
theorem dX6_estimate_42 : decode cX6_estimate 42 = .ok (.iconst 3, 1) := by decide +kernel
theorem dX6_estimate_43 : decode cX6_estimate 43 = .ok (.invokevirtual 99, 3) := by decide +kernel
theorem dX6_estimate_46 : decode cX6_estimate 46 = .ok (.i2l, 1) := by decide +kernel
theorem dX6_estimate_47 : decode cX6_estimate 47 = .ok (.lreturn, 1) := by decide +kernel
theorem dX6_estimate_48 : decode cX6_estimate 48 = .ok (.aload_n 0, 1) := by decide +kernel
theorem dX6_estimate_49 : decode cX6_estimate 49 = .ok (.iconst 0, 1) := by decide +kernel
theorem dX6_estimate_50 : decode cX6_estimate 50 = .ok (.putfield 57, 3) := by decide +kernel
theorem dX6_estimate_53 : decode cX6_estimate 53 = .ok (.aload_n 0, 1) := by decide +kernel
theorem dX6_estimate_54 : decode cX6_estimate 54 = .ok (.iload_n 1, 1) := by decide +kernel
theorem dX6_estimate_55 : decode cX6_estimate 55 = .ok (.invokevirtual 172, 3) := by decide +kernel
theorem dX6_estimate_58 : decode cX6_estimate 58 = .ok (.aload_n 0, 1) := by decide +kernel
theorem dX6_estimate_59 : decode cX6_estimate 59 = .ok (.iconst 0, 1) := by decide +kernel
theorem dX6_estimate_60 : decode cX6_estimate 60 = .ok (.bipush 99, 2) := by decide +kernel
theorem dX6_estimate_62 : decode cX6_estimate 62 = .ok (.iload_n 2, 1) := by decide +kernel
theorem dX6_estimate_63 : decode cX6_estimate 63 = .ok (.iconst 2, 1) := by decide +kernel
theorem dX6_estimate_64 : decode cX6_estimate 64 = .ok (.if_icmp .ne 7, 3) := by decide +kernel
theorem dX6_estimate_67 : decode cX6_estimate 67 = .ok (.iconst 1, 1) := by decide +kernel
theorem dX6_estimate_68 : decode cX6_estimate 68 = .ok (.goto 4, 3) := by decide +kernel
theorem dX6_estimate_71 : decode cX6_estimate 71 = .ok (.iconst 0, 1) := by decide +kernel
theorem dX6_estimate_72 : decode cX6_estimate 72 = .ok (.invokevirtual 244, 3) := by decide +kernel
theorem dX6_estimate_75 : decode cX6_estimate 75 = .ok (.iload_n 2, 1) := by decide +kernel
theorem dX6_estimate_76 : decode cX6_estimate 76 = .ok (.ifCond .ne 11, 3) := by decide +kernel
theorem dX6_estimate_79 : decode cX6_estimate 79 = .ok (.aload_n 0, 1) := by decide +kernel
theorem dX6_estimate_80 : decode cX6_estimate 80 = .ok (.iload_n 1, 1) := by decide +kernel
theorem dX6_estimate_81 : decode cX6_estimate 81 = .ok (.invokevirtual 241, 3) := by decide +kernel
theorem dX6_estimate_84 : decode cX6_estimate 84 = .ok (.goto 8, 3) := by decide +kernel
theorem dX6_estimate_87 : decode cX6_estimate 87 = .ok (.aload_n 0, 1) := by decide +kernel
theorem dX6_estimate_88 : decode cX6_estimate 88 = .ok (.iload_n 1, 1) := by decide +kernel
theorem dX6_estimate_89 : decode cX6_estimate 89 = .ok (.invokevirtual 248, 3) := by decide +kernel
theorem dX6_estimate_92 : decode cX6_estimate 92 = .ok (.lreturn, 1) := by decide +kernel
theorem dX6_truth_0 : decode cX6_truth 0 = .ok (.iload_n 1, 1) := by decide +kernel
theorem dX6_truth_1 : decode cX6_truth 1 = .ok (.invokestatic 96, 3) := by decide +kernel
theorem dX6_truth_4 : decode cX6_truth 4 = .ok (.ifCond .ne 10, 3) := by decide +kernel
theorem dX6_truth_7 : decode cX6_truth 7 = .ok (.aload_n 0, 1) := by decide +kernel
theorem dX6_truth_8 : decode cX6_truth 8 = .ok (.iconst 1, 1) := by decide +kernel
theorem dX6_truth_9 : decode cX6_truth 9 = .ok (.invokevirtual 99, 3) := by decide +kernel
theorem dX6_truth_12 : decode cX6_truth 12 = .ok (.i2l, 1) := by decide +kernel
theorem dX6_truth_13 : decode cX6_truth 13 = .ok (.lreturn, 1) := by decide +kernel
theorem dX6_truth_14 : decode cX6_truth 14 = .ok (.iload_n 2, 1) := by decide +kernel
theorem dX6_truth_15 : decode cX6_truth 15 = .ok (.i2l, 1) := by decide +kernel
theorem dX6_truth_16 : decode cX6_truth 16 = .ok (.lconst 0, 1) := by decide +kernel
theorem dX6_truth_17 : decode cX6_truth 17 = .ok (.ldc2_w 215, 3) := by decide +kernel
theorem dX6_truth_20 : decode cX6_truth 20 = .ok (.invokestatic 67, 3) := by decide +kernel
theorem dX6_truth_23 : decode cX6_truth 23 = .ok (.ifCond .ne 10, 3) := by decide +kernel
theorem dX6_truth_26 : decode cX6_truth 26 = .ok (.aload_n 0, 1) := by decide +kernel
theorem dX6_truth_27 : decode cX6_truth 27 = .ok (.iconst 2, 1) := by decide +kernel
theorem dX6_truth_28 : decode cX6_truth 28 = .ok (.invokevirtual 99, 3) := by decide +kernel
theorem dX6_truth_31 : decode cX6_truth 31 = .ok (.i2l, 1) := by decide +kernel
theorem dX6_truth_32 : decode cX6_truth 32 = .ok (.lreturn, 1) := by decide +kernel
theorem dX6_truth_33 : decode cX6_truth 33 = .ok (.aload_n 0, 1) := by decide +kernel
theorem dX6_truth_34 : decode cX6_truth 34 = .ok (.iload_n 1, 1) := by decide +kernel
theorem dX6_truth_35 : decode cX6_truth 35 = .ok (.invokevirtual 89, 3) := by decide +kernel
theorem dX6_truth_38 : decode cX6_truth 38 = .ok (.ifCond .ne 10, 3) := by decide +kernel
theorem dX6_truth_41 : decode cX6_truth 41 = .ok (.aload_n 0, 1) := by decide +kernel
theorem dX6_truth_42 : decode cX6_truth 42 = .ok (.iconst 3, 1) := by decide +kernel
theorem dX6_truth_43 : decode cX6_truth 43 = .ok (.invokevirtual 99, 3) := by decide +kernel
theorem dX6_truth_46 : decode cX6_truth 46 = .ok (.i2l, 1) := by decide +kernel
theorem dX6_truth_47 : decode cX6_truth 47 = .ok (.lreturn, 1) := by decide +kernel
theorem dX6_truth_48 : decode cX6_truth 48 = .ok (.aload_n 0, 1) := by decide +kernel
theorem dX6_truth_49 : decode cX6_truth 49 = .ok (.iconst 0, 1) := by decide +kernel
theorem dX6_truth_50 : decode cX6_truth 50 = .ok (.putfield 57, 3) := by decide +kernel
theorem dX6_truth_53 : decode cX6_truth 53 = .ok (.lconst 0, 1) := by decide +kernel
theorem dX6_truth_54 : decode cX6_truth 54 = .ok (.lstore_n 3, 1) := by decide +kernel
theorem dX6_truth_55 : decode cX6_truth 55 = .ok (.iconst 0, 1) := by decide +kernel
theorem dX6_truth_56 : decode cX6_truth 56 = .ok (.istore 5, 2) := by decide +kernel
theorem dX6_truth_58 : decode cX6_truth 58 = .ok (.iload 5, 2) := by decide +kernel
theorem dX6_truth_60 : decode cX6_truth 60 = .ok (.aload_n 0, 1) := by decide +kernel
theorem dX6_truth_61 : decode cX6_truth 61 = .ok (.iload_n 1, 1) := by decide +kernel
theorem dX6_truth_62 : decode cX6_truth 62 = .ok (.invokevirtual 92, 3) := by decide +kernel
theorem dX6_truth_65 : decode cX6_truth 65 = .ok (.if_icmp .ge 52, 3) := by decide +kernel
theorem dX6_truth_68 : decode cX6_truth 68 = .ok (.lload_n 3, 1) := by decide +kernel
theorem dX6_truth_69 : decode cX6_truth 69 = .ok (.aload_n 0, 1) := by decide +kernel
theorem dX6_truth_70 : decode cX6_truth 70 = .ok (.iload_n 1, 1) := by decide +kernel
theorem dX6_truth_71 : decode cX6_truth 71 = .ok (.iload 5, 2) := by decide +kernel
theorem dX6_truth_73 : decode cX6_truth 73 = .ok (.invokevirtual 153, 3) := by decide +kernel
theorem dX6_truth_76 : decode cX6_truth 76 = .ok (.ifCond .ne 7, 3) := by decide +kernel
theorem dX6_truth_79 : decode cX6_truth 79 = .ok (.lconst 0, 1) := by decide +kernel
theorem dX6_truth_80 : decode cX6_truth 80 = .ok (.goto 29, 3) := by decide +kernel
theorem dX6_truth_83 : decode cX6_truth 83 = .ok (.iload_n 2, 1) := by decide +kernel
theorem dX6_truth_84 : decode cX6_truth 84 = .ok (.ifCond .ne 7, 3) := by decide +kernel
theorem dX6_truth_87 : decode cX6_truth 87 = .ok (.lconst 1, 1) := by decide +kernel
theorem dX6_truth_88 : decode cX6_truth 88 = .ok (.goto 21, 3) := by decide +kernel
theorem dX6_truth_91 : decode cX6_truth 91 = .ok (.aload_n 0, 1) := by decide +kernel
theorem dX6_truth_92 : decode cX6_truth 92 = .ok (.iload_n 1, 1) := by decide +kernel
theorem dX6_truth_93 : decode cX6_truth 93 = .ok (.iload 5, 2) := by decide +kernel
theorem dX6_truth_95 : decode cX6_truth 95 = .ok (.iload_n 2, 1) := by decide +kernel
theorem dX6_truth_96 : decode cX6_truth 96 = .ok (.iconst 1, 1) := by decide +kernel
theorem dX6_truth_97 : decode cX6_truth 97 = .ok (.if_icmp .ne 7, 3) := by decide +kernel
theorem dX6_truth_100 : decode cX6_truth 100 = .ok (.iconst 4, 1) := by decide +kernel
theorem dX6_truth_101 : decode cX6_truth 101 = .ok (.goto 4, 3) := by decide +kernel
theorem dX6_truth_104 : decode cX6_truth 104 = .ok (.iconst 3, 1) := by decide +kernel
theorem dX6_truth_105 : decode cX6_truth 105 = .ok (.invokevirtual 115, 3) := by decide +kernel
theorem dX6_truth_108 : decode cX6_truth 108 = .ok (.i2l, 1) := by decide +kernel
theorem dX6_truth_109 : decode cX6_truth 109 = .ok (.ladd, 1) := by decide +kernel
theorem dX6_truth_110 : decode cX6_truth 110 = .ok (.lstore_n 3, 1) := by decide +kernel
theorem dX6_truth_111 : decode cX6_truth 111 = .ok (.iinc 5 1, 3) := by decide +kernel
theorem dX6_truth_114 : decode cX6_truth 114 = .ok (.goto (-56), 3) := by decide +kernel
theorem dX6_truth_117 : decode cX6_truth 117 = .ok (.lload_n 3, 1) := by decide +kernel
theorem dX6_truth_118 : decode cX6_truth 118 = .ok (.lreturn, 1) := by decide +kernel
theorem dX6_quantile_0 : decode cX6_quantile 0 = .ok (.iload_n 1, 1) := by decide +kernel
theorem dX6_quantile_1 : decode cX6_quantile 1 = .ok (.invokestatic 96, 3) := by decide +kernel
theorem dX6_quantile_4 : decode cX6_quantile 4 = .ok (.ifCond .ne 9, 3) := by decide +kernel
theorem dX6_quantile_7 : decode cX6_quantile 7 = .ok (.aload_n 0, 1) := by decide +kernel
theorem dX6_quantile_8 : decode cX6_quantile 8 = .ok (.iconst 1, 1) := by decide +kernel
theorem dX6_quantile_9 : decode cX6_quantile 9 = .ok (.invokevirtual 99, 3) := by decide +kernel
theorem dX6_quantile_12 : decode cX6_quantile 12 = .ok (.ireturn, 1) := by decide +kernel
theorem dX6_quantile_13 : decode cX6_quantile 13 = .ok (.iload_n 2, 1) := by decide +kernel
theorem dX6_quantile_14 : decode cX6_quantile 14 = .ok (.i2l, 1) := by decide +kernel
theorem dX6_quantile_15 : decode cX6_quantile 15 = .ok (.lconst 0, 1) := by decide +kernel
theorem dX6_quantile_16 : decode cX6_quantile 16 = .ok (.ldc2_w 251, 3) := by decide +kernel
theorem dX6_quantile_19 : decode cX6_quantile 19 = .ok (.invokestatic 67, 3) := by decide +kernel
theorem dX6_quantile_22 : decode cX6_quantile 22 = .ok (.ifCond .ne 9, 3) := by decide +kernel
theorem dX6_quantile_25 : decode cX6_quantile 25 = .ok (.aload_n 0, 1) := by decide +kernel
theorem dX6_quantile_26 : decode cX6_quantile 26 = .ok (.iconst 2, 1) := by decide +kernel
theorem dX6_quantile_27 : decode cX6_quantile 27 = .ok (.invokevirtual 99, 3) := by decide +kernel
theorem dX6_quantile_30 : decode cX6_quantile 30 = .ok (.ireturn, 1) := by decide +kernel
theorem dX6_quantile_31 : decode cX6_quantile 31 = .ok (.aload_n 0, 1) := by decide +kernel
theorem dX6_quantile_32 : decode cX6_quantile 32 = .ok (.iload_n 1, 1) := by decide +kernel
theorem dX6_quantile_33 : decode cX6_quantile 33 = .ok (.invokevirtual 89, 3) := by decide +kernel
theorem dX6_quantile_36 : decode cX6_quantile 36 = .ok (.ifCond .ne 9, 3) := by decide +kernel
theorem dX6_quantile_39 : decode cX6_quantile 39 = .ok (.aload_n 0, 1) := by decide +kernel
theorem dX6_quantile_40 : decode cX6_quantile 40 = .ok (.iconst 3, 1) := by decide +kernel
theorem dX6_quantile_41 : decode cX6_quantile 41 = .ok (.invokevirtual 99, 3) := by decide +kernel
theorem dX6_quantile_44 : decode cX6_quantile 44 = .ok (.ireturn, 1) := by decide +kernel
theorem dX6_quantile_45 : decode cX6_quantile 45 = .ok (.aload_n 0, 1) := by decide +kernel
theorem dX6_quantile_46 : decode cX6_quantile 46 = .ok (.iload_n 1, 1) := by decide +kernel
theorem dX6_quantile_47 : decode cX6_quantile 47 = .ok (.invokevirtual 172, 3) := by decide +kernel
theorem dX6_quantile_50 : decode cX6_quantile 50 = .ok (.aload_n 0, 1) := by decide +kernel
theorem dX6_quantile_51 : decode cX6_quantile 51 = .ok (.getfield 160, 3) := by decide +kernel
theorem dX6_quantile_54 : decode cX6_quantile 54 = .ok (.ifCond .ne 9, 3) := by decide +kernel
theorem dX6_quantile_57 : decode cX6_quantile 57 = .ok (.aload_n 0, 1) := by decide +kernel
theorem dX6_quantile_58 : decode cX6_quantile 58 = .ok (.iconst 4, 1) := by decide +kernel
theorem dX6_quantile_59 : decode cX6_quantile 59 = .ok (.invokevirtual 99, 3) := by decide +kernel
theorem dX6_quantile_62 : decode cX6_quantile 62 = .ok (.ireturn, 1) := by decide +kernel
theorem dX6_quantile_63 : decode cX6_quantile 63 = .ok (.aload_n 0, 1) := by decide +kernel
theorem dX6_quantile_64 : decode cX6_quantile 64 = .ok (.iconst 0, 1) := by decide +kernel
theorem dX6_quantile_65 : decode cX6_quantile 65 = .ok (.putfield 57, 3) := by decide +kernel
theorem dX6_quantile_68 : decode cX6_quantile 68 = .ok (.iconst 0, 1) := by decide +kernel
theorem dX6_quantile_69 : decode cX6_quantile 69 = .ok (.istore_n 3, 1) := by decide +kernel
theorem dX6_quantile_70 : decode cX6_quantile 70 = .ok (.iload_n 3, 1) := by decide +kernel
theorem dX6_quantile_71 : decode cX6_quantile 71 = .ok (.aload_n 0, 1) := by decide +kernel
theorem dX6_quantile_72 : decode cX6_quantile 72 = .ok (.getfield 160, 3) := by decide +kernel
theorem dX6_quantile_75 : decode cX6_quantile 75 = .ok (.if_icmp .ge 76, 3) := by decide +kernel
theorem dX6_quantile_78 : decode cX6_quantile 78 = .ok (.aload_n 0, 1) := by decide +kernel
theorem dX6_quantile_79 : decode cX6_quantile 79 = .ok (.iload_n 1, 1) := by decide +kernel
theorem dX6_quantile_80 : decode cX6_quantile 80 = .ok (.aload_n 0, 1) := by decide +kernel
theorem dX6_quantile_81 : decode cX6_quantile 81 = .ok (.getfield 16, 3) := by decide +kernel
theorem dX6_quantile_84 : decode cX6_quantile 84 = .ok (.iload_n 3, 1) := by decide +kernel
theorem dX6_quantile_85 : decode cX6_quantile 85 = .ok (.iaload, 1) := by decide +kernel
theorem dX6_quantile_86 : decode cX6_quantile 86 = .ok (.iconst 4, 1) := by decide +kernel
theorem dX6_quantile_87 : decode cX6_quantile 87 = .ok (.invokevirtual 115, 3) := by decide +kernel
theorem dX6_quantile_90 : decode cX6_quantile 90 = .ok (.istore 4, 2) := by decide +kernel
theorem dX6_quantile_92 : decode cX6_quantile 92 = .ok (.iload_n 3, 1) := by decide +kernel
theorem dX6_quantile_93 : decode cX6_quantile 93 = .ok (.istore 5, 2) := by decide +kernel
theorem dX6_quantile_95 : decode cX6_quantile 95 = .ok (.iload 5, 2) := by decide +kernel
theorem dX6_quantile_97 : decode cX6_quantile 97 = .ok (.ifCond .le 39, 3) := by decide +kernel
theorem dX6_quantile_100 : decode cX6_quantile 100 = .ok (.aload_n 0, 1) := by decide +kernel
theorem dX6_quantile_101 : decode cX6_quantile 101 = .ok (.getfield 31, 3) := by decide +kernel
theorem dX6_quantile_104 : decode cX6_quantile 104 = .ok (.iload 5, 2) := by decide +kernel
theorem dX6_quantile_106 : decode cX6_quantile 106 = .ok (.iconst 1, 1) := by decide +kernel
theorem dX6_quantile_107 : decode cX6_quantile 107 = .ok (.isub, 1) := by decide +kernel
theorem dX6_quantile_108 : decode cX6_quantile 108 = .ok (.iaload, 1) := by decide +kernel
theorem dX6_quantile_109 : decode cX6_quantile 109 = .ok (.iload 4, 2) := by decide +kernel
theorem dX6_quantile_111 : decode cX6_quantile 111 = .ok (.if_icmp .le 25, 3) := by decide +kernel
theorem dX6_quantile_114 : decode cX6_quantile 114 = .ok (.aload_n 0, 1) := by decide +kernel
theorem dX6_quantile_115 : decode cX6_quantile 115 = .ok (.getfield 31, 3) := by decide +kernel
theorem dX6_quantile_118 : decode cX6_quantile 118 = .ok (.iload 5, 2) := by decide +kernel
theorem dX6_quantile_120 : decode cX6_quantile 120 = .ok (.aload_n 0, 1) := by decide +kernel
theorem dX6_quantile_121 : decode cX6_quantile 121 = .ok (.getfield 31, 3) := by decide +kernel
theorem dX6_quantile_124 : decode cX6_quantile 124 = .ok (.iload 5, 2) := by decide +kernel
theorem dX6_quantile_126 : decode cX6_quantile 126 = .ok (.iconst 1, 1) := by decide +kernel
theorem dX6_quantile_127 : decode cX6_quantile 127 = .ok (.isub, 1) := by decide +kernel
theorem dX6_quantile_128 : decode cX6_quantile 128 = .ok (.iaload, 1) := by decide +kernel
theorem dX6_quantile_129 : decode cX6_quantile 129 = .ok (.iastore, 1) := by decide +kernel
theorem dX6_quantile_130 : decode cX6_quantile 130 = .ok (.iinc 5 (-1), 3) := by decide +kernel
theorem dX6_quantile_133 : decode cX6_quantile 133 = .ok (.goto (-38), 3) := by decide +kernel
theorem dX6_quantile_136 : decode cX6_quantile 136 = .ok (.aload_n 0, 1) := by decide +kernel
theorem dX6_quantile_137 : decode cX6_quantile 137 = .ok (.getfield 31, 3) := by decide +kernel
theorem dX6_quantile_140 : decode cX6_quantile 140 = .ok (.iload 5, 2) := by decide +kernel
theorem dX6_quantile_142 : decode cX6_quantile 142 = .ok (.iload 4, 2) := by decide +kernel
theorem dX6_quantile_144 : decode cX6_quantile 144 = .ok (.iastore, 1) := by decide +kernel
theorem dX6_quantile_145 : decode cX6_quantile 145 = .ok (.iinc 3 1, 3) := by decide +kernel
theorem dX6_quantile_148 : decode cX6_quantile 148 = .ok (.goto (-78), 3) := by decide +kernel
theorem dX6_quantile_151 : decode cX6_quantile 151 = .ok (.aload_n 0, 1) := by decide +kernel
theorem dX6_quantile_152 : decode cX6_quantile 152 = .ok (.getfield 160, 3) := by decide +kernel
theorem dX6_quantile_155 : decode cX6_quantile 155 = .ok (.iload_n 2, 1) := by decide +kernel
theorem dX6_quantile_156 : decode cX6_quantile 156 = .ok (.imul, 1) := by decide +kernel
theorem dX6_quantile_157 : decode cX6_quantile 157 = .ok (.sipush 1000, 3) := by decide +kernel
theorem dX6_quantile_160 : decode cX6_quantile 160 = .ok (.idiv, 1) := by decide +kernel
theorem dX6_quantile_161 : decode cX6_quantile 161 = .ok (.istore_n 3, 1) := by decide +kernel
theorem dX6_quantile_162 : decode cX6_quantile 162 = .ok (.aload_n 0, 1) := by decide +kernel
theorem dX6_quantile_163 : decode cX6_quantile 163 = .ok (.getfield 31, 3) := by decide +kernel
theorem dX6_quantile_166 : decode cX6_quantile 166 = .ok (.iload_n 3, 1) := by decide +kernel
theorem dX6_quantile_167 : decode cX6_quantile 167 = .ok (.aload_n 0, 1) := by decide +kernel
theorem dX6_quantile_168 : decode cX6_quantile 168 = .ok (.getfield 160, 3) := by decide +kernel
theorem dX6_quantile_171 : decode cX6_quantile 171 = .ok (.if_icmp .ge 7, 3) := by decide +kernel
theorem dX6_quantile_174 : decode cX6_quantile 174 = .ok (.iload_n 3, 1) := by decide +kernel
theorem dX6_quantile_175 : decode cX6_quantile 175 = .ok (.goto 9, 3) := by decide +kernel
theorem dX6_quantile_178 : decode cX6_quantile 178 = .ok (.aload_n 0, 1) := by decide +kernel
theorem dX6_quantile_179 : decode cX6_quantile 179 = .ok (.getfield 160, 3) := by decide +kernel
theorem dX6_quantile_182 : decode cX6_quantile 182 = .ok (.iconst 1, 1) := by decide +kernel
theorem dX6_quantile_183 : decode cX6_quantile 183 = .ok (.isub, 1) := by decide +kernel
theorem dX6_quantile_184 : decode cX6_quantile 184 = .ok (.iaload, 1) := by decide +kernel
theorem dX6_quantile_185 : decode cX6_quantile 185 = .ok (.ireturn, 1) := by decide +kernel
theorem dX6_resampled_0 : decode cX6_resampled 0 = .ok (.iload_n 1, 1) := by decide +kernel
theorem dX6_resampled_1 : decode cX6_resampled 1 = .ok (.invokestatic 96, 3) := by decide +kernel
theorem dX6_resampled_4 : decode cX6_resampled 4 = .ok (.ifCond .ne 10, 3) := by decide +kernel
theorem dX6_resampled_7 : decode cX6_resampled 7 = .ok (.aload_n 0, 1) := by decide +kernel
theorem dX6_resampled_8 : decode cX6_resampled 8 = .ok (.iconst 1, 1) := by decide +kernel
theorem dX6_resampled_9 : decode cX6_resampled 9 = .ok (.invokevirtual 99, 3) := by decide +kernel
theorem dX6_resampled_12 : decode cX6_resampled 12 = .ok (.i2d, 1) := by decide +kernel
theorem dX6_resampled_13 : decode cX6_resampled 13 = .ok (.dreturn, 1) := by decide +kernel
theorem dX6_resampled_14 : decode cX6_resampled 14 = .ok (.iload_n 3, 1) := by decide +kernel
theorem dX6_resampled_15 : decode cX6_resampled 15 = .ok (.i2l, 1) := by decide +kernel
theorem dX6_resampled_16 : decode cX6_resampled 16 = .ok (.lconst 1, 1) := by decide +kernel
theorem dX6_resampled_17 : decode cX6_resampled 17 = .ok (.ldc2_w 251, 3) := by decide +kernel
theorem dX6_resampled_20 : decode cX6_resampled 20 = .ok (.invokestatic 67, 3) := by decide +kernel
theorem dX6_resampled_23 : decode cX6_resampled 23 = .ok (.ifCond .ne 10, 3) := by decide +kernel
theorem dX6_resampled_26 : decode cX6_resampled 26 = .ok (.aload_n 0, 1) := by decide +kernel
theorem dX6_resampled_27 : decode cX6_resampled 27 = .ok (.iconst 2, 1) := by decide +kernel
theorem dX6_resampled_28 : decode cX6_resampled 28 = .ok (.invokevirtual 99, 3) := by decide +kernel
theorem dX6_resampled_31 : decode cX6_resampled 31 = .ok (.i2d, 1) := by decide +kernel
theorem dX6_resampled_32 : decode cX6_resampled 32 = .ok (.dreturn, 1) := by decide +kernel
theorem dX6_resampled_33 : decode cX6_resampled 33 = .ok (.aload_n 0, 1) := by decide +kernel
theorem dX6_resampled_34 : decode cX6_resampled 34 = .ok (.iload_n 1, 1) := by decide +kernel
theorem dX6_resampled_35 : decode cX6_resampled 35 = .ok (.invokevirtual 89, 3) := by decide +kernel
theorem dX6_resampled_38 : decode cX6_resampled 38 = .ok (.ifCond .ne 10, 3) := by decide +kernel
theorem dX6_resampled_41 : decode cX6_resampled 41 = .ok (.aload_n 0, 1) := by decide +kernel
theorem dX6_resampled_42 : decode cX6_resampled 42 = .ok (.iconst 3, 1) := by decide +kernel
theorem dX6_resampled_43 : decode cX6_resampled 43 = .ok (.invokevirtual 99, 3) := by decide +kernel
theorem dX6_resampled_46 : decode cX6_resampled 46 = .ok (.i2d, 1) := by decide +kernel
theorem dX6_resampled_47 : decode cX6_resampled 47 = .ok (.dreturn, 1) := by decide +kernel
theorem dX6_resampled_48 : decode cX6_resampled 48 = .ok (.aload_n 0, 1) := by decide +kernel
theorem dX6_resampled_49 : decode cX6_resampled 49 = .ok (.iload_n 1, 1) := by decide +kernel
theorem dX6_resampled_50 : decode cX6_resampled 50 = .ok (.invokevirtual 172, 3) := by decide +kernel
theorem dX6_resampled_53 : decode cX6_resampled 53 = .ok (.aload_n 0, 1) := by decide +kernel
theorem dX6_resampled_54 : decode cX6_resampled 54 = .ok (.getfield 160, 3) := by decide +kernel
theorem dX6_resampled_57 : decode cX6_resampled 57 = .ok (.ifCond .ne 10, 3) := by decide +kernel
theorem dX6_resampled_60 : decode cX6_resampled 60 = .ok (.aload_n 0, 1) := by decide +kernel
theorem dX6_resampled_61 : decode cX6_resampled 61 = .ok (.iconst 4, 1) := by decide +kernel
theorem dX6_resampled_62 : decode cX6_resampled 62 = .ok (.invokevirtual 99, 3) := by decide +kernel
theorem dX6_resampled_65 : decode cX6_resampled 65 = .ok (.i2d, 1) := by decide +kernel
theorem dX6_resampled_66 : decode cX6_resampled 66 = .ok (.dreturn, 1) := by decide +kernel
theorem dX6_resampled_67 : decode cX6_resampled 67 = .ok (.aload_n 0, 1) := by decide +kernel
theorem dX6_resampled_68 : decode cX6_resampled 68 = .ok (.iconst 0, 1) := by decide +kernel
theorem dX6_resampled_69 : decode cX6_resampled 69 = .ok (.putfield 57, 3) := by decide +kernel
theorem dX6_resampled_72 : decode cX6_resampled 72 = .ok (.iload_n 2, 1) := by decide +kernel
theorem dX6_resampled_73 : decode cX6_resampled 73 = .ok (.istore 4, 2) := by decide +kernel
theorem dX6_resampled_75 : decode cX6_resampled 75 = .ok (.iconst 0, 1) := by decide +kernel
theorem dX6_resampled_76 : decode cX6_resampled 76 = .ok (.istore 5, 2) := by decide +kernel
theorem dX6_resampled_78 : decode cX6_resampled 78 = .ok (.iconst 0, 1) := by decide +kernel
theorem dX6_resampled_79 : decode cX6_resampled 79 = .ok (.istore 6, 2) := by decide +kernel
theorem dX6_resampled_81 : decode cX6_resampled 81 = .ok (.iload 6, 2) := by decide +kernel
theorem dX6_resampled_83 : decode cX6_resampled 83 = .ok (.iload_n 3, 1) := by decide +kernel
theorem dX6_resampled_84 : decode cX6_resampled 84 = .ok (.if_icmp .ge 46, 3) := by decide +kernel
theorem dX6_resampled_87 : decode cX6_resampled 87 = .ok (.iload 4, 2) := by decide +kernel
theorem dX6_resampled_89 : decode cX6_resampled 89 = .ok (.ldc 137, 2) := by decide +kernel
theorem dX6_resampled_91 : decode cX6_resampled 91 = .ok (.imul, 1) := by decide +kernel
theorem dX6_resampled_92 : decode cX6_resampled 92 = .ok (.sipush 12345, 3) := by decide +kernel
theorem dX6_resampled_95 : decode cX6_resampled 95 = .ok (.iadd, 1) := by decide +kernel
theorem dX6_resampled_96 : decode cX6_resampled 96 = .ok (.istore 4, 2) := by decide +kernel
theorem dX6_resampled_98 : decode cX6_resampled 98 = .ok (.iload 5, 2) := by decide +kernel
theorem dX6_resampled_100 : decode cX6_resampled 100 = .ok (.aload_n 0, 1) := by decide +kernel
theorem dX6_resampled_101 : decode cX6_resampled 101 = .ok (.iload_n 1, 1) := by decide +kernel
theorem dX6_resampled_102 : decode cX6_resampled 102 = .ok (.aload_n 0, 1) := by decide +kernel
theorem dX6_resampled_103 : decode cX6_resampled 103 = .ok (.getfield 16, 3) := by decide +kernel
theorem dX6_resampled_106 : decode cX6_resampled 106 = .ok (.iload 4, 2) := by decide +kernel
theorem dX6_resampled_108 : decode cX6_resampled 108 = .ok (.bipush 8, 2) := by decide +kernel
theorem dX6_resampled_110 : decode cX6_resampled 110 = .ok (.iushr, 1) := by decide +kernel
theorem dX6_resampled_111 : decode cX6_resampled 111 = .ok (.aload_n 0, 1) := by decide +kernel
theorem dX6_resampled_112 : decode cX6_resampled 112 = .ok (.getfield 160, 3) := by decide +kernel
theorem dX6_resampled_115 : decode cX6_resampled 115 = .ok (.irem, 1) := by decide +kernel
theorem dX6_resampled_116 : decode cX6_resampled 116 = .ok (.iaload, 1) := by decide +kernel
theorem dX6_resampled_117 : decode cX6_resampled 117 = .ok (.iconst 4, 1) := by decide +kernel
theorem dX6_resampled_118 : decode cX6_resampled 118 = .ok (.invokevirtual 115, 3) := by decide +kernel
theorem dX6_resampled_121 : decode cX6_resampled 121 = .ok (.iadd, 1) := by decide +kernel
theorem dX6_resampled_122 : decode cX6_resampled 122 = .ok (.istore 5, 2) := by decide +kernel
theorem dX6_resampled_124 : decode cX6_resampled 124 = .ok (.iinc 6 1, 3) := by decide +kernel
theorem dX6_resampled_127 : decode cX6_resampled 127 = .ok (.goto (-46), 3) := by decide +kernel
theorem dX6_resampled_130 : decode cX6_resampled 130 = .ok (.iload 5, 2) := by decide +kernel
theorem dX6_resampled_132 : decode cX6_resampled 132 = .ok (.i2d, 1) := by decide +kernel
theorem dX6_resampled_133 : decode cX6_resampled 133 = .ok (.iload_n 3, 1) := by decide +kernel
theorem dX6_resampled_134 : decode cX6_resampled 134 = .ok (.i2d, 1) := by decide +kernel
theorem dX6_resampled_135 : decode cX6_resampled 135 = .ok (.ddiv, 1) := by decide +kernel
theorem dX6_resampled_136 : decode cX6_resampled 136 = .ok (.dreturn, 1) := by decide +kernel
theorem dX6_putsAside_0 : decode cX6_putsAside 0 = .ok (.aload_n 0, 1) := by decide +kernel
theorem dX6_putsAside_1 : decode cX6_putsAside 1 = .ok (.iload_n 1, 1) := by decide +kernel
theorem dX6_putsAside_2 : decode cX6_putsAside 2 = .ok (.invokevirtual 172, 3) := by decide +kernel
theorem dX6_putsAside_5 : decode cX6_putsAside 5 = .ok (.aload_n 0, 1) := by decide +kernel
theorem dX6_putsAside_6 : decode cX6_putsAside 6 = .ok (.aload_n 0, 1) := by decide +kernel
theorem dX6_putsAside_7 : decode cX6_putsAside 7 = .ok (.getfield 160, 3) := by decide +kernel
theorem dX6_putsAside_10 : decode cX6_putsAside 10 = .ok (.putfield 253, 3) := by decide +kernel
theorem dX6_putsAside_13 : decode cX6_putsAside 13 = .ok (.iconst 0, 1) := by decide +kernel
theorem dX6_putsAside_14 : decode cX6_putsAside 14 = .ok (.istore_n 2, 1) := by decide +kernel
theorem dX6_putsAside_15 : decode cX6_putsAside 15 = .ok (.iload_n 2, 1) := by decide +kernel
theorem dX6_putsAside_16 : decode cX6_putsAside 16 = .ok (.aload_n 0, 1) := by decide +kernel
theorem dX6_putsAside_17 : decode cX6_putsAside 17 = .ok (.getfield 253, 3) := by decide +kernel
theorem dX6_putsAside_20 : decode cX6_putsAside 20 = .ok (.if_icmp .ge 45, 3) := by decide +kernel
theorem dX6_putsAside_23 : decode cX6_putsAside 23 = .ok (.aload_n 0, 1) := by decide +kernel
theorem dX6_putsAside_24 : decode cX6_putsAside 24 = .ok (.getfield 34, 3) := by decide +kernel
theorem dX6_putsAside_27 : decode cX6_putsAside 27 = .ok (.iload_n 2, 1) := by decide +kernel
theorem dX6_putsAside_28 : decode cX6_putsAside 28 = .ok (.aload_n 0, 1) := by decide +kernel
theorem dX6_putsAside_29 : decode cX6_putsAside 29 = .ok (.iload_n 1, 1) := by decide +kernel
theorem dX6_putsAside_30 : decode cX6_putsAside 30 = .ok (.aload_n 0, 1) := by decide +kernel
theorem dX6_putsAside_31 : decode cX6_putsAside 31 = .ok (.getfield 16, 3) := by decide +kernel
theorem dX6_putsAside_34 : decode cX6_putsAside 34 = .ok (.iload_n 2, 1) := by decide +kernel
theorem dX6_putsAside_35 : decode cX6_putsAside 35 = .ok (.iaload, 1) := by decide +kernel
theorem dX6_putsAside_36 : decode cX6_putsAside 36 = .ok (.iconst 4, 1) := by decide +kernel
theorem dX6_putsAside_37 : decode cX6_putsAside 37 = .ok (.invokevirtual 115, 3) := by decide +kernel
theorem dX6_putsAside_40 : decode cX6_putsAside 40 = .ok (.iastore, 1) := by decide +kernel
theorem dX6_putsAside_41 : decode cX6_putsAside 41 = .ok (.aload_n 0, 1) := by decide +kernel
theorem dX6_putsAside_42 : decode cX6_putsAside 42 = .ok (.getfield 37, 3) := by decide +kernel
theorem dX6_putsAside_45 : decode cX6_putsAside 45 = .ok (.iload_n 2, 1) := by decide +kernel
theorem dX6_putsAside_46 : decode cX6_putsAside 46 = .ok (.aload_n 0, 1) := by decide +kernel
theorem dX6_putsAside_47 : decode cX6_putsAside 47 = .ok (.iload_n 1, 1) := by decide +kernel
theorem dX6_putsAside_48 : decode cX6_putsAside 48 = .ok (.aload_n 0, 1) := by decide +kernel
theorem dX6_putsAside_49 : decode cX6_putsAside 49 = .ok (.getfield 16, 3) := by decide +kernel
theorem dX6_putsAside_52 : decode cX6_putsAside 52 = .ok (.iload_n 2, 1) := by decide +kernel
theorem dX6_putsAside_53 : decode cX6_putsAside 53 = .ok (.iaload, 1) := by decide +kernel
theorem dX6_putsAside_54 : decode cX6_putsAside 54 = .ok (.iconst 0, 1) := by decide +kernel
theorem dX6_putsAside_55 : decode cX6_putsAside 55 = .ok (.invokevirtual 115, 3) := by decide +kernel
theorem dX6_putsAside_58 : decode cX6_putsAside 58 = .ok (.iastore, 1) := by decide +kernel
theorem dX6_putsAside_59 : decode cX6_putsAside 59 = .ok (.iinc 2 1, 3) := by decide +kernel
theorem dX6_putsAside_62 : decode cX6_putsAside 62 = .ok (.goto (-47), 3) := by decide +kernel
theorem dX6_putsAside_65 : decode cX6_putsAside 65 = .ok (.return_, 1) := by decide +kernel
theorem dX6_difference_0 : decode cX6_difference 0 = .ok (.iconst 0, 1) := by decide +kernel
theorem dX6_difference_1 : decode cX6_difference 1 = .ok (.istore_n 3, 1) := by decide +kernel
theorem dX6_difference_2 : decode cX6_difference 2 = .ok (.iconst 0, 1) := by decide +kernel
theorem dX6_difference_3 : decode cX6_difference 3 = .ok (.istore 4, 2) := by decide +kernel
theorem dX6_difference_5 : decode cX6_difference 5 = .ok (.iconst 0, 1) := by decide +kernel
theorem dX6_difference_6 : decode cX6_difference 6 = .ok (.istore 5, 2) := by decide +kernel
theorem dX6_difference_8 : decode cX6_difference 8 = .ok (.iload 5, 2) := by decide +kernel
theorem dX6_difference_10 : decode cX6_difference 10 = .ok (.aload_n 0, 1) := by decide +kernel
theorem dX6_difference_11 : decode cX6_difference 11 = .ok (.getfield 160, 3) := by decide +kernel
theorem dX6_difference_14 : decode cX6_difference 14 = .ok (.if_icmp .ge 34, 3) := by decide +kernel
theorem dX6_difference_17 : decode cX6_difference 17 = .ok (.iload_n 3, 1) := by decide +kernel
theorem dX6_difference_18 : decode cX6_difference 18 = .ok (.aload_n 0, 1) := by decide +kernel
theorem dX6_difference_19 : decode cX6_difference 19 = .ok (.iload_n 1, 1) := by decide +kernel
theorem dX6_difference_20 : decode cX6_difference 20 = .ok (.aload_n 0, 1) := by decide +kernel
theorem dX6_difference_21 : decode cX6_difference 21 = .ok (.getfield 16, 3) := by decide +kernel
theorem dX6_difference_24 : decode cX6_difference 24 = .ok (.iload 5, 2) := by decide +kernel
theorem dX6_difference_26 : decode cX6_difference 26 = .ok (.iaload, 1) := by decide +kernel
theorem dX6_difference_27 : decode cX6_difference 27 = .ok (.iconst 4, 1) := by decide +kernel
theorem dX6_difference_28 : decode cX6_difference 28 = .ok (.invokevirtual 115, 3) := by decide +kernel
theorem dX6_difference_31 : decode cX6_difference 31 = .ok (.iload_n 2, 1) := by decide +kernel
theorem dX6_difference_32 : decode cX6_difference 32 = .ok (.if_icmp .gt 7, 3) := by decide +kernel
theorem dX6_difference_35 : decode cX6_difference 35 = .ok (.iconst 1, 1) := by decide +kernel
theorem dX6_difference_36 : decode cX6_difference 36 = .ok (.goto 4, 3) := by decide +kernel
theorem dX6_difference_39 : decode cX6_difference 39 = .ok (.iconst 0, 1) := by decide +kernel
theorem dX6_difference_40 : decode cX6_difference 40 = .ok (.iadd, 1) := by decide +kernel
theorem dX6_difference_41 : decode cX6_difference 41 = .ok (.istore_n 3, 1) := by decide +kernel
theorem dX6_difference_42 : decode cX6_difference 42 = .ok (.iinc 5 1, 3) := by decide +kernel
theorem dX6_difference_45 : decode cX6_difference 45 = .ok (.goto (-37), 3) := by decide +kernel
theorem dX6_difference_48 : decode cX6_difference 48 = .ok (.iconst 0, 1) := by decide +kernel
theorem dX6_difference_49 : decode cX6_difference 49 = .ok (.istore 5, 2) := by decide +kernel
theorem dX6_difference_51 : decode cX6_difference 51 = .ok (.iload 5, 2) := by decide +kernel
theorem dX6_difference_53 : decode cX6_difference 53 = .ok (.aload_n 0, 1) := by decide +kernel
theorem dX6_difference_54 : decode cX6_difference 54 = .ok (.getfield 253, 3) := by decide +kernel
theorem dX6_difference_57 : decode cX6_difference 57 = .ok (.if_icmp .ge 30, 3) := by decide +kernel
theorem dX6_difference_60 : decode cX6_difference 60 = .ok (.iload 4, 2) := by decide +kernel
theorem dX6_difference_62 : decode cX6_difference 62 = .ok (.aload_n 0, 1) := by decide +kernel
theorem dX6_difference_63 : decode cX6_difference 63 = .ok (.getfield 34, 3) := by decide +kernel
theorem dX6_difference_66 : decode cX6_difference 66 = .ok (.iload 5, 2) := by decide +kernel
theorem dX6_difference_68 : decode cX6_difference 68 = .ok (.iaload, 1) := by decide +kernel
theorem dX6_difference_69 : decode cX6_difference 69 = .ok (.iload_n 2, 1) := by decide +kernel
theorem dX6_difference_70 : decode cX6_difference 70 = .ok (.if_icmp .gt 7, 3) := by decide +kernel
theorem dX6_difference_73 : decode cX6_difference 73 = .ok (.iconst 1, 1) := by decide +kernel
theorem dX6_difference_74 : decode cX6_difference 74 = .ok (.goto 4, 3) := by decide +kernel
theorem dX6_difference_77 : decode cX6_difference 77 = .ok (.iconst 0, 1) := by decide +kernel
theorem dX6_difference_78 : decode cX6_difference 78 = .ok (.iadd, 1) := by decide +kernel
theorem dX6_difference_79 : decode cX6_difference 79 = .ok (.istore 4, 2) := by decide +kernel
theorem dX6_difference_81 : decode cX6_difference 81 = .ok (.iinc 5 1, 3) := by decide +kernel
theorem dX6_difference_84 : decode cX6_difference 84 = .ok (.goto (-33), 3) := by decide +kernel
theorem dX6_difference_87 : decode cX6_difference 87 = .ok (.iload_n 3, 1) := by decide +kernel
theorem dX6_difference_88 : decode cX6_difference 88 = .ok (.i2f, 1) := by decide +kernel
theorem dX6_difference_89 : decode cX6_difference 89 = .ok (.aload_n 0, 1) := by decide +kernel
theorem dX6_difference_90 : decode cX6_difference 90 = .ok (.getfield 160, 3) := by decide +kernel
theorem dX6_difference_93 : decode cX6_difference 93 = .ok (.i2f, 1) := by decide +kernel
theorem dX6_difference_94 : decode cX6_difference 94 = .ok (.fdiv, 1) := by decide +kernel
theorem dX6_difference_95 : decode cX6_difference 95 = .ok (.fstore 5, 2) := by decide +kernel
theorem dX6_difference_97 : decode cX6_difference 97 = .ok (.iload 4, 2) := by decide +kernel
theorem dX6_difference_99 : decode cX6_difference 99 = .ok (.i2f, 1) := by decide +kernel
theorem dX6_difference_100 : decode cX6_difference 100 = .ok (.aload_n 0, 1) := by decide +kernel
theorem dX6_difference_101 : decode cX6_difference 101 = .ok (.getfield 253, 3) := by decide +kernel
theorem dX6_difference_104 : decode cX6_difference 104 = .ok (.i2f, 1) := by decide +kernel
theorem dX6_difference_105 : decode cX6_difference 105 = .ok (.fdiv, 1) := by decide +kernel
theorem dX6_difference_106 : decode cX6_difference 106 = .ok (.fstore 6, 2) := by decide +kernel
theorem dX6_difference_108 : decode cX6_difference 108 = .ok (.fload 5, 2) := by decide +kernel
theorem dX6_difference_110 : decode cX6_difference 110 = .ok (.fload 6, 2) := by decide +kernel
theorem dX6_difference_112 : decode cX6_difference 112 = .ok (.fcmp .g, 1) := by decide +kernel
theorem dX6_difference_113 : decode cX6_difference 113 = .ok (.ifCond .ge 11, 3) := by decide +kernel
theorem dX6_difference_116 : decode cX6_difference 116 = .ok (.fload 6, 2) := by decide +kernel
theorem dX6_difference_118 : decode cX6_difference 118 = .ok (.fload 5, 2) := by decide +kernel
theorem dX6_difference_120 : decode cX6_difference 120 = .ok (.fsub, 1) := by decide +kernel
theorem dX6_difference_121 : decode cX6_difference 121 = .ok (.goto 8, 3) := by decide +kernel
theorem dX6_difference_124 : decode cX6_difference 124 = .ok (.fload 5, 2) := by decide +kernel
theorem dX6_difference_126 : decode cX6_difference 126 = .ok (.fload 6, 2) := by decide +kernel
theorem dX6_difference_128 : decode cX6_difference 128 = .ok (.fsub, 1) := by decide +kernel
theorem dX6_difference_129 : decode cX6_difference 129 = .ok (.freturn, 1) := by decide +kernel
theorem dX6_distance_0 : decode cX6_distance 0 = .ok (.iload_n 1, 1) := by decide +kernel
theorem dX6_distance_1 : decode cX6_distance 1 = .ok (.invokestatic 96, 3) := by decide +kernel
theorem dX6_distance_4 : decode cX6_distance 4 = .ok (.ifCond .eq 10, 3) := by decide +kernel
theorem dX6_distance_7 : decode cX6_distance 7 = .ok (.iload_n 2, 1) := by decide +kernel
theorem dX6_distance_8 : decode cX6_distance 8 = .ok (.invokestatic 96, 3) := by decide +kernel
theorem dX6_distance_11 : decode cX6_distance 11 = .ok (.ifCond .ne 10, 3) := by decide +kernel
theorem dX6_distance_14 : decode cX6_distance 14 = .ok (.aload_n 0, 1) := by decide +kernel
theorem dX6_distance_15 : decode cX6_distance 15 = .ok (.iconst 1, 1) := by decide +kernel
theorem dX6_distance_16 : decode cX6_distance 16 = .ok (.invokevirtual 99, 3) := by decide +kernel
theorem dX6_distance_19 : decode cX6_distance 19 = .ok (.i2f, 1) := by decide +kernel
theorem dX6_distance_20 : decode cX6_distance 20 = .ok (.freturn, 1) := by decide +kernel
theorem dX6_distance_21 : decode cX6_distance 21 = .ok (.aload_n 0, 1) := by decide +kernel
theorem dX6_distance_22 : decode cX6_distance 22 = .ok (.iload_n 1, 1) := by decide +kernel
theorem dX6_distance_23 : decode cX6_distance 23 = .ok (.invokevirtual 89, 3) := by decide +kernel
theorem dX6_distance_26 : decode cX6_distance 26 = .ok (.ifCond .eq 11, 3) := by decide +kernel
theorem dX6_distance_29 : decode cX6_distance 29 = .ok (.aload_n 0, 1) := by decide +kernel
theorem dX6_distance_30 : decode cX6_distance 30 = .ok (.iload_n 2, 1) := by decide +kernel
theorem dX6_distance_31 : decode cX6_distance 31 = .ok (.invokevirtual 89, 3) := by decide +kernel
theorem dX6_distance_34 : decode cX6_distance 34 = .ok (.ifCond .ne 10, 3) := by decide +kernel
theorem dX6_distance_37 : decode cX6_distance 37 = .ok (.aload_n 0, 1) := by decide +kernel
theorem dX6_distance_38 : decode cX6_distance 38 = .ok (.iconst 2, 1) := by decide +kernel
theorem dX6_distance_39 : decode cX6_distance 39 = .ok (.invokevirtual 99, 3) := by decide +kernel
theorem dX6_distance_42 : decode cX6_distance 42 = .ok (.i2f, 1) := by decide +kernel
theorem dX6_distance_43 : decode cX6_distance 43 = .ok (.freturn, 1) := by decide +kernel
theorem dX6_distance_44 : decode cX6_distance 44 = .ok (.aload_n 0, 1) := by decide +kernel
theorem dX6_distance_45 : decode cX6_distance 45 = .ok (.iload_n 2, 1) := by decide +kernel
theorem dX6_distance_46 : decode cX6_distance 46 = .ok (.invokevirtual 256, 3) := by decide +kernel
theorem dX6_distance_49 : decode cX6_distance 49 = .ok (.aload_n 0, 1) := by decide +kernel
theorem dX6_distance_50 : decode cX6_distance 50 = .ok (.iload_n 1, 1) := by decide +kernel
theorem dX6_distance_51 : decode cX6_distance 51 = .ok (.invokevirtual 172, 3) := by decide +kernel
theorem dX6_distance_54 : decode cX6_distance 54 = .ok (.aload_n 0, 1) := by decide +kernel
theorem dX6_distance_55 : decode cX6_distance 55 = .ok (.getfield 160, 3) := by decide +kernel
theorem dX6_distance_58 : decode cX6_distance 58 = .ok (.ifCond .eq 10, 3) := by decide +kernel
theorem dX6_distance_61 : decode cX6_distance 61 = .ok (.aload_n 0, 1) := by decide +kernel
theorem dX6_distance_62 : decode cX6_distance 62 = .ok (.getfield 253, 3) := by decide +kernel
theorem dX6_distance_65 : decode cX6_distance 65 = .ok (.ifCond .ne 10, 3) := by decide +kernel
theorem dX6_distance_68 : decode cX6_distance 68 = .ok (.aload_n 0, 1) := by decide +kernel
theorem dX6_distance_69 : decode cX6_distance 69 = .ok (.iconst 3, 1) := by decide +kernel
theorem dX6_distance_70 : decode cX6_distance 70 = .ok (.invokevirtual 99, 3) := by decide +kernel
theorem dX6_distance_73 : decode cX6_distance 73 = .ok (.i2f, 1) := by decide +kernel
theorem dX6_distance_74 : decode cX6_distance 74 = .ok (.freturn, 1) := by decide +kernel
theorem dX6_distance_75 : decode cX6_distance 75 = .ok (.aload_n 0, 1) := by decide +kernel
theorem dX6_distance_76 : decode cX6_distance 76 = .ok (.iconst 0, 1) := by decide +kernel
theorem dX6_distance_77 : decode cX6_distance 77 = .ok (.putfield 57, 3) := by decide +kernel
theorem dX6_distance_80 : decode cX6_distance 80 = .ok (.fconst 0, 1) := by decide +kernel
theorem dX6_distance_81 : decode cX6_distance 81 = .ok (.fstore_n 3, 1) := by decide +kernel
theorem dX6_distance_82 : decode cX6_distance 82 = .ok (.iconst 0, 1) := by decide +kernel
theorem dX6_distance_83 : decode cX6_distance 83 = .ok (.istore 4, 2) := by decide +kernel
theorem dX6_distance_85 : decode cX6_distance 85 = .ok (.iload 4, 2) := by decide +kernel
theorem dX6_distance_87 : decode cX6_distance 87 = .ok (.aload_n 0, 1) := by decide +kernel
theorem dX6_distance_88 : decode cX6_distance 88 = .ok (.getfield 160, 3) := by decide +kernel
theorem dX6_distance_91 : decode cX6_distance 91 = .ok (.aload_n 0, 1) := by decide +kernel
theorem dX6_distance_92 : decode cX6_distance 92 = .ok (.getfield 253, 3) := by decide +kernel
theorem dX6_distance_95 : decode cX6_distance 95 = .ok (.iadd, 1) := by decide +kernel
theorem dX6_distance_96 : decode cX6_distance 96 = .ok (.if_icmp .ge 67, 3) := by decide +kernel
theorem dX6_distance_99 : decode cX6_distance 99 = .ok (.aload_n 0, 1) := by decide +kernel
theorem dX6_distance_100 : decode cX6_distance 100 = .ok (.iload_n 1, 1) := by decide +kernel
theorem dX6_distance_101 : decode cX6_distance 101 = .ok (.iload 4, 2) := by decide +kernel
theorem dX6_distance_103 : decode cX6_distance 103 = .ok (.aload_n 0, 1) := by decide +kernel
theorem dX6_distance_104 : decode cX6_distance 104 = .ok (.getfield 160, 3) := by decide +kernel
theorem dX6_distance_107 : decode cX6_distance 107 = .ok (.if_icmp .ge 19, 3) := by decide +kernel
theorem dX6_distance_110 : decode cX6_distance 110 = .ok (.aload_n 0, 1) := by decide +kernel
theorem dX6_distance_111 : decode cX6_distance 111 = .ok (.iload_n 1, 1) := by decide +kernel
theorem dX6_distance_112 : decode cX6_distance 112 = .ok (.aload_n 0, 1) := by decide +kernel
theorem dX6_distance_113 : decode cX6_distance 113 = .ok (.getfield 16, 3) := by decide +kernel
theorem dX6_distance_116 : decode cX6_distance 116 = .ok (.iload 4, 2) := by decide +kernel
theorem dX6_distance_118 : decode cX6_distance 118 = .ok (.iaload, 1) := by decide +kernel
theorem dX6_distance_119 : decode cX6_distance 119 = .ok (.iconst 4, 1) := by decide +kernel
theorem dX6_distance_120 : decode cX6_distance 120 = .ok (.invokevirtual 115, 3) := by decide +kernel
theorem dX6_distance_123 : decode cX6_distance 123 = .ok (.goto 15, 3) := by decide +kernel
theorem dX6_distance_126 : decode cX6_distance 126 = .ok (.aload_n 0, 1) := by decide +kernel
theorem dX6_distance_127 : decode cX6_distance 127 = .ok (.getfield 34, 3) := by decide +kernel
theorem dX6_distance_130 : decode cX6_distance 130 = .ok (.iload 4, 2) := by decide +kernel
theorem dX6_distance_132 : decode cX6_distance 132 = .ok (.aload_n 0, 1) := by decide +kernel
theorem dX6_distance_133 : decode cX6_distance 133 = .ok (.getfield 160, 3) := by decide +kernel
theorem dX6_distance_136 : decode cX6_distance 136 = .ok (.isub, 1) := by decide +kernel
theorem dX6_distance_137 : decode cX6_distance 137 = .ok (.iaload, 1) := by decide +kernel
theorem dX6_distance_138 : decode cX6_distance 138 = .ok (.invokevirtual 259, 3) := by decide +kernel
theorem dX6_distance_141 : decode cX6_distance 141 = .ok (.fstore 5, 2) := by decide +kernel
theorem dX6_distance_143 : decode cX6_distance 143 = .ok (.fload 5, 2) := by decide +kernel
theorem dX6_distance_145 : decode cX6_distance 145 = .ok (.fload_n 3, 1) := by decide +kernel
theorem dX6_distance_146 : decode cX6_distance 146 = .ok (.fcmp .l, 1) := by decide +kernel
theorem dX6_distance_147 : decode cX6_distance 147 = .ok (.ifCond .le 8, 3) := by decide +kernel
theorem dX6_distance_150 : decode cX6_distance 150 = .ok (.fload 5, 2) := by decide +kernel
theorem dX6_distance_152 : decode cX6_distance 152 = .ok (.goto 4, 3) := by decide +kernel
theorem dX6_distance_155 : decode cX6_distance 155 = .ok (.fload_n 3, 1) := by decide +kernel
theorem dX6_distance_156 : decode cX6_distance 156 = .ok (.fstore_n 3, 1) := by decide +kernel
theorem dX6_distance_157 : decode cX6_distance 157 = .ok (.iinc 4 1, 3) := by decide +kernel
theorem dX6_distance_160 : decode cX6_distance 160 = .ok (.goto (-75), 3) := by decide +kernel
theorem dX6_distance_163 : decode cX6_distance 163 = .ok (.fload_n 3, 1) := by decide +kernel
theorem dX6_distance_164 : decode cX6_distance 164 = .ok (.freturn, 1) := by decide +kernel
theorem dX6_common_0 : decode cX6_common 0 = .ok (.iload_n 1, 1) := by decide +kernel
theorem dX6_common_1 : decode cX6_common 1 = .ok (.invokestatic 96, 3) := by decide +kernel
theorem dX6_common_4 : decode cX6_common 4 = .ok (.ifCond .eq 10, 3) := by decide +kernel
theorem dX6_common_7 : decode cX6_common 7 = .ok (.iload_n 2, 1) := by decide +kernel
theorem dX6_common_8 : decode cX6_common 8 = .ok (.invokestatic 96, 3) := by decide +kernel
theorem dX6_common_11 : decode cX6_common 11 = .ok (.ifCond .ne 9, 3) := by decide +kernel
theorem dX6_common_14 : decode cX6_common 14 = .ok (.aload_n 0, 1) := by decide +kernel
theorem dX6_common_15 : decode cX6_common 15 = .ok (.iconst 1, 1) := by decide +kernel
theorem dX6_common_16 : decode cX6_common 16 = .ok (.invokevirtual 99, 3) := by decide +kernel
theorem dX6_common_19 : decode cX6_common 19 = .ok (.ireturn, 1) := by decide +kernel
theorem dX6_common_20 : decode cX6_common 20 = .ok (.aload_n 0, 1) := by decide +kernel
theorem dX6_common_21 : decode cX6_common 21 = .ok (.iload_n 1, 1) := by decide +kernel
theorem dX6_common_22 : decode cX6_common 22 = .ok (.invokevirtual 89, 3) := by decide +kernel
theorem dX6_common_25 : decode cX6_common 25 = .ok (.ifCond .eq 11, 3) := by decide +kernel
theorem dX6_common_28 : decode cX6_common 28 = .ok (.aload_n 0, 1) := by decide +kernel
theorem dX6_common_29 : decode cX6_common 29 = .ok (.iload_n 2, 1) := by decide +kernel
theorem dX6_common_30 : decode cX6_common 30 = .ok (.invokevirtual 89, 3) := by decide +kernel
theorem dX6_common_33 : decode cX6_common 33 = .ok (.ifCond .ne 9, 3) := by decide +kernel
theorem dX6_common_36 : decode cX6_common 36 = .ok (.aload_n 0, 1) := by decide +kernel
theorem dX6_common_37 : decode cX6_common 37 = .ok (.iconst 2, 1) := by decide +kernel
theorem dX6_common_38 : decode cX6_common 38 = .ok (.invokevirtual 99, 3) := by decide +kernel
theorem dX6_common_41 : decode cX6_common 41 = .ok (.ireturn, 1) := by decide +kernel
theorem dX6_common_42 : decode cX6_common 42 = .ok (.aload_n 0, 1) := by decide +kernel
theorem dX6_common_43 : decode cX6_common 43 = .ok (.iconst 0, 1) := by decide +kernel
theorem dX6_common_44 : decode cX6_common 44 = .ok (.putfield 57, 3) := by decide +kernel
theorem dX6_common_47 : decode cX6_common 47 = .ok (.aload_n 0, 1) := by decide +kernel
theorem dX6_common_48 : decode cX6_common 48 = .ok (.iload_n 2, 1) := by decide +kernel
theorem dX6_common_49 : decode cX6_common 49 = .ok (.invokevirtual 256, 3) := by decide +kernel
theorem dX6_common_52 : decode cX6_common 52 = .ok (.aload_n 0, 1) := by decide +kernel
theorem dX6_common_53 : decode cX6_common 53 = .ok (.iload_n 1, 1) := by decide +kernel
theorem dX6_common_54 : decode cX6_common 54 = .ok (.invokevirtual 172, 3) := by decide +kernel
theorem dX6_common_57 : decode cX6_common 57 = .ok (.iconst 0, 1) := by decide +kernel
theorem dX6_common_58 : decode cX6_common 58 = .ok (.istore_n 3, 1) := by decide +kernel
theorem dX6_common_59 : decode cX6_common 59 = .ok (.iconst 0, 1) := by decide +kernel
theorem dX6_common_60 : decode cX6_common 60 = .ok (.istore 4, 2) := by decide +kernel
theorem dX6_common_62 : decode cX6_common 62 = .ok (.iload 4, 2) := by decide +kernel
theorem dX6_common_64 : decode cX6_common 64 = .ok (.aload_n 0, 1) := by decide +kernel
theorem dX6_common_65 : decode cX6_common 65 = .ok (.getfield 160, 3) := by decide +kernel
theorem dX6_common_68 : decode cX6_common 68 = .ok (.if_icmp .ge 58, 3) := by decide +kernel
theorem dX6_common_71 : decode cX6_common 71 = .ok (.iconst 0, 1) := by decide +kernel
theorem dX6_common_72 : decode cX6_common 72 = .ok (.istore 5, 2) := by decide +kernel
theorem dX6_common_74 : decode cX6_common 74 = .ok (.iload 5, 2) := by decide +kernel
theorem dX6_common_76 : decode cX6_common 76 = .ok (.aload_n 0, 1) := by decide +kernel
theorem dX6_common_77 : decode cX6_common 77 = .ok (.getfield 253, 3) := by decide +kernel
theorem dX6_common_80 : decode cX6_common 80 = .ok (.if_icmp .ge 40, 3) := by decide +kernel
theorem dX6_common_83 : decode cX6_common 83 = .ok (.iload_n 3, 1) := by decide +kernel
theorem dX6_common_84 : decode cX6_common 84 = .ok (.aload_n 0, 1) := by decide +kernel
theorem dX6_common_85 : decode cX6_common 85 = .ok (.iload_n 1, 1) := by decide +kernel
theorem dX6_common_86 : decode cX6_common 86 = .ok (.aload_n 0, 1) := by decide +kernel
theorem dX6_common_87 : decode cX6_common 87 = .ok (.getfield 16, 3) := by decide +kernel
theorem dX6_common_90 : decode cX6_common 90 = .ok (.iload 4, 2) := by decide +kernel
theorem dX6_common_92 : decode cX6_common 92 = .ok (.iaload, 1) := by decide +kernel
theorem dX6_common_93 : decode cX6_common 93 = .ok (.iconst 0, 1) := by decide +kernel
theorem dX6_common_94 : decode cX6_common 94 = .ok (.invokevirtual 115, 3) := by decide +kernel
theorem dX6_common_97 : decode cX6_common 97 = .ok (.aload_n 0, 1) := by decide +kernel
theorem dX6_common_98 : decode cX6_common 98 = .ok (.getfield 37, 3) := by decide +kernel
theorem dX6_common_101 : decode cX6_common 101 = .ok (.iload 5, 2) := by decide +kernel
theorem dX6_common_103 : decode cX6_common 103 = .ok (.iaload, 1) := by decide +kernel
theorem dX6_common_104 : decode cX6_common 104 = .ok (.if_icmp .ne 7, 3) := by decide +kernel
theorem dX6_common_107 : decode cX6_common 107 = .ok (.iconst 1, 1) := by decide +kernel
theorem dX6_common_108 : decode cX6_common 108 = .ok (.goto 4, 3) := by decide +kernel
theorem dX6_common_111 : decode cX6_common 111 = .ok (.iconst 0, 1) := by decide +kernel
theorem dX6_common_112 : decode cX6_common 112 = .ok (.iadd, 1) := by decide +kernel
theorem dX6_common_113 : decode cX6_common 113 = .ok (.istore_n 3, 1) := by decide +kernel
theorem dX6_common_114 : decode cX6_common 114 = .ok (.iinc 5 1, 3) := by decide +kernel
theorem dX6_common_117 : decode cX6_common 117 = .ok (.goto (-43), 3) := by decide +kernel
theorem dX6_common_120 : decode cX6_common 120 = .ok (.iinc 4 1, 3) := by decide +kernel
theorem dX6_common_123 : decode cX6_common 123 = .ok (.goto (-61), 3) := by decide +kernel
theorem dX6_common_126 : decode cX6_common 126 = .ok (.iload_n 3, 1) := by decide +kernel
theorem dX6_common_127 : decode cX6_common 127 = .ok (.ireturn, 1) := by decide +kernel
theorem dX6_feed_0 : decode cX6_feed 0 = .ok (.aload_n 0, 1) := by decide +kernel
theorem dX6_feed_1 : decode cX6_feed 1 = .ok (.getfield 263, 3) := by decide +kernel
theorem dX6_feed_4 : decode cX6_feed 4 = .ok (.bipush 120, 2) := by decide +kernel
theorem dX6_feed_6 : decode cX6_feed 6 = .ok (.if_icmp .ne 9, 3) := by decide +kernel
theorem dX6_feed_9 : decode cX6_feed 9 = .ok (.aload_n 0, 1) := by decide +kernel
theorem dX6_feed_10 : decode cX6_feed 10 = .ok (.iconst 1, 1) := by decide +kernel
theorem dX6_feed_11 : decode cX6_feed 11 = .ok (.invokevirtual 99, 3) := by decide +kernel
theorem dX6_feed_14 : decode cX6_feed 14 = .ok (.ireturn, 1) := by decide +kernel
theorem dX6_feed_15 : decode cX6_feed 15 = .ok (.aload_n 0, 1) := by decide +kernel
theorem dX6_feed_16 : decode cX6_feed 16 = .ok (.iconst 0, 1) := by decide +kernel
theorem dX6_feed_17 : decode cX6_feed 17 = .ok (.putfield 57, 3) := by decide +kernel
theorem dX6_feed_20 : decode cX6_feed 20 = .ok (.aload_n 0, 1) := by decide +kernel
theorem dX6_feed_21 : decode cX6_feed 21 = .ok (.getfield 40, 3) := by decide +kernel
theorem dX6_feed_24 : decode cX6_feed 24 = .ok (.aload_n 0, 1) := by decide +kernel
theorem dX6_feed_25 : decode cX6_feed 25 = .ok (.getfield 263, 3) := by decide +kernel
theorem dX6_feed_28 : decode cX6_feed 28 = .ok (.iload_n 1, 1) := by decide +kernel
theorem dX6_feed_29 : decode cX6_feed 29 = .ok (.castore, 1) := by decide +kernel
theorem dX6_feed_30 : decode cX6_feed 30 = .ok (.aload_n 0, 1) := by decide +kernel
theorem dX6_feed_31 : decode cX6_feed 31 = .ok (.dup, 1) := by decide +kernel
theorem dX6_feed_32 : decode cX6_feed 32 = .ok (.getfield 263, 3) := by decide +kernel
theorem dX6_feed_35 : decode cX6_feed 35 = .ok (.iconst 1, 1) := by decide +kernel
theorem dX6_feed_36 : decode cX6_feed 36 = .ok (.iadd, 1) := by decide +kernel
theorem dX6_feed_37 : decode cX6_feed 37 = .ok (.putfield 263, 3) := by decide +kernel
theorem dX6_feed_40 : decode cX6_feed 40 = .ok (.aload_n 0, 1) := by decide +kernel
theorem dX6_feed_41 : decode cX6_feed 41 = .ok (.getfield 263, 3) := by decide +kernel
theorem dX6_feed_44 : decode cX6_feed 44 = .ok (.ireturn, 1) := by decide +kernel
theorem dX6_skips_0 : decode cX6_skips 0 = .ok (.aload_n 0, 1) := by decide +kernel
theorem dX6_skips_1 : decode cX6_skips 1 = .ok (.getfield 266, 3) := by decide +kernel
theorem dX6_skips_4 : decode cX6_skips 4 = .ok (.aload_n 0, 1) := by decide +kernel
theorem dX6_skips_5 : decode cX6_skips 5 = .ok (.getfield 263, 3) := by decide +kernel
theorem dX6_skips_8 : decode cX6_skips 8 = .ok (.if_icmp .eq 16, 3) := by decide +kernel
theorem dX6_skips_11 : decode cX6_skips 11 = .ok (.aload_n 0, 1) := by decide +kernel
theorem dX6_skips_12 : decode cX6_skips 12 = .ok (.getfield 40, 3) := by decide +kernel
theorem dX6_skips_15 : decode cX6_skips 15 = .ok (.aload_n 0, 1) := by decide +kernel
theorem dX6_skips_16 : decode cX6_skips 16 = .ok (.getfield 266, 3) := by decide +kernel
theorem dX6_skips_19 : decode cX6_skips 19 = .ok (.caload, 1) := by decide +kernel
theorem dX6_skips_20 : decode cX6_skips 20 = .ok (.iload_n 1, 1) := by decide +kernel
theorem dX6_skips_21 : decode cX6_skips 21 = .ok (.if_icmp .eq 5, 3) := by decide +kernel
theorem dX6_skips_24 : decode cX6_skips 24 = .ok (.iconst 0, 1) := by decide +kernel
theorem dX6_skips_25 : decode cX6_skips 25 = .ok (.ireturn, 1) := by decide +kernel
theorem dX6_skips_26 : decode cX6_skips 26 = .ok (.aload_n 0, 1) := by decide +kernel
theorem dX6_skips_27 : decode cX6_skips 27 = .ok (.dup, 1) := by decide +kernel
theorem dX6_skips_28 : decode cX6_skips 28 = .ok (.getfield 266, 3) := by decide +kernel
theorem dX6_skips_31 : decode cX6_skips 31 = .ok (.iconst 1, 1) := by decide +kernel
theorem dX6_skips_32 : decode cX6_skips 32 = .ok (.iadd, 1) := by decide +kernel
theorem dX6_skips_33 : decode cX6_skips 33 = .ok (.putfield 266, 3) := by decide +kernel
theorem dX6_skips_36 : decode cX6_skips 36 = .ok (.iconst 1, 1) := by decide +kernel
theorem dX6_skips_37 : decode cX6_skips 37 = .ok (.ireturn, 1) := by decide +kernel
theorem dX6_takesNumber_0 : decode cX6_takesNumber 0 = .ok (.aload_n 0, 1) := by decide +kernel
theorem dX6_takesNumber_1 : decode cX6_takesNumber 1 = .ok (.bipush 45, 2) := by decide +kernel
theorem dX6_takesNumber_3 : decode cX6_takesNumber 3 = .ok (.invokevirtual 269, 3) := by decide +kernel
theorem dX6_takesNumber_6 : decode cX6_takesNumber 6 = .ok (.istore_n 1, 1) := by decide +kernel
theorem dX6_takesNumber_7 : decode cX6_takesNumber 7 = .ok (.lconst 0, 1) := by decide +kernel
theorem dX6_takesNumber_8 : decode cX6_takesNumber 8 = .ok (.lstore_n 2, 1) := by decide +kernel
theorem dX6_takesNumber_9 : decode cX6_takesNumber 9 = .ok (.iconst 0, 1) := by decide +kernel
theorem dX6_takesNumber_10 : decode cX6_takesNumber 10 = .ok (.istore 4, 2) := by decide +kernel
theorem dX6_takesNumber_12 : decode cX6_takesNumber 12 = .ok (.iload 4, 2) := by decide +kernel
theorem dX6_takesNumber_14 : decode cX6_takesNumber 14 = .ok (.bipush 10, 2) := by decide +kernel
theorem dX6_takesNumber_16 : decode cX6_takesNumber 16 = .ok (.if_icmp .ge 73, 3) := by decide +kernel
theorem dX6_takesNumber_19 : decode cX6_takesNumber 19 = .ok (.aload_n 0, 1) := by decide +kernel
theorem dX6_takesNumber_20 : decode cX6_takesNumber 20 = .ok (.getfield 266, 3) := by decide +kernel
theorem dX6_takesNumber_23 : decode cX6_takesNumber 23 = .ok (.aload_n 0, 1) := by decide +kernel
theorem dX6_takesNumber_24 : decode cX6_takesNumber 24 = .ok (.getfield 263, 3) := by decide +kernel
theorem dX6_takesNumber_27 : decode cX6_takesNumber 27 = .ok (.if_icmp .ge 62, 3) := by decide +kernel
theorem dX6_takesNumber_30 : decode cX6_takesNumber 30 = .ok (.aload_n 0, 1) := by decide +kernel
theorem dX6_takesNumber_31 : decode cX6_takesNumber 31 = .ok (.getfield 40, 3) := by decide +kernel
theorem dX6_takesNumber_34 : decode cX6_takesNumber 34 = .ok (.aload_n 0, 1) := by decide +kernel
theorem dX6_takesNumber_35 : decode cX6_takesNumber 35 = .ok (.getfield 266, 3) := by decide +kernel
theorem dX6_takesNumber_38 : decode cX6_takesNumber 38 = .ok (.caload, 1) := by decide +kernel
theorem dX6_takesNumber_39 : decode cX6_takesNumber 39 = .ok (.i2l, 1) := by decide +kernel
theorem dX6_takesNumber_40 : decode cX6_takesNumber 40 = .ok (.ldc2_w 273, 3) := by decide +kernel
theorem dX6_takesNumber_43 : decode cX6_takesNumber 43 = .ok (.ldc2_w 275, 3) := by decide +kernel
theorem dX6_takesNumber_46 : decode cX6_takesNumber 46 = .ok (.invokestatic 67, 3) := by decide +kernel
theorem dX6_takesNumber_49 : decode cX6_takesNumber 49 = .ok (.ifCond .eq 40, 3) := by decide +kernel
theorem dX6_takesNumber_52 : decode cX6_takesNumber 52 = .ok (.ldc2_w 277, 3) := by decide +kernel
theorem dX6_takesNumber_55 : decode cX6_takesNumber 55 = .ok (.lload_n 2, 1) := by decide +kernel
theorem dX6_takesNumber_56 : decode cX6_takesNumber 56 = .ok (.lmul, 1) := by decide +kernel
theorem dX6_takesNumber_57 : decode cX6_takesNumber 57 = .ok (.aload_n 0, 1) := by decide +kernel
theorem dX6_takesNumber_58 : decode cX6_takesNumber 58 = .ok (.getfield 40, 3) := by decide +kernel
theorem dX6_takesNumber_61 : decode cX6_takesNumber 61 = .ok (.aload_n 0, 1) := by decide +kernel
theorem dX6_takesNumber_62 : decode cX6_takesNumber 62 = .ok (.getfield 266, 3) := by decide +kernel
theorem dX6_takesNumber_65 : decode cX6_takesNumber 65 = .ok (.caload, 1) := by decide +kernel
theorem dX6_takesNumber_66 : decode cX6_takesNumber 66 = .ok (.i2l, 1) := by decide +kernel
theorem dX6_takesNumber_67 : decode cX6_takesNumber 67 = .ok (.ladd, 1) := by decide +kernel
theorem dX6_takesNumber_68 : decode cX6_takesNumber 68 = .ok (.ldc2_w 273, 3) := by decide +kernel
theorem dX6_takesNumber_71 : decode cX6_takesNumber 71 = .ok (.lsub, 1) := by decide +kernel
theorem dX6_takesNumber_72 : decode cX6_takesNumber 72 = .ok (.lstore_n 2, 1) := by decide +kernel
theorem dX6_takesNumber_73 : decode cX6_takesNumber 73 = .ok (.iinc 4 1, 3) := by decide +kernel
theorem dX6_takesNumber_76 : decode cX6_takesNumber 76 = .ok (.aload_n 0, 1) := by decide +kernel
theorem dX6_takesNumber_77 : decode cX6_takesNumber 77 = .ok (.dup, 1) := by decide +kernel
theorem dX6_takesNumber_78 : decode cX6_takesNumber 78 = .ok (.getfield 266, 3) := by decide +kernel
theorem dX6_takesNumber_81 : decode cX6_takesNumber 81 = .ok (.iconst 1, 1) := by decide +kernel
theorem dX6_takesNumber_82 : decode cX6_takesNumber 82 = .ok (.iadd, 1) := by decide +kernel
theorem dX6_takesNumber_83 : decode cX6_takesNumber 83 = .ok (.putfield 266, 3) := by decide +kernel
theorem dX6_takesNumber_86 : decode cX6_takesNumber 86 = .ok (.goto (-74), 3) := by decide +kernel
theorem dX6_takesNumber_89 : decode cX6_takesNumber 89 = .ok (.aload_n 0, 1) := by decide +kernel
theorem dX6_takesNumber_90 : decode cX6_takesNumber 90 = .ok (.getfield 44, 3) := by decide +kernel
theorem dX6_takesNumber_93 : decode cX6_takesNumber 93 = .ok (.aload_n 0, 1) := by decide +kernel
theorem dX6_takesNumber_94 : decode cX6_takesNumber 94 = .ok (.getfield 279, 3) := by decide +kernel
theorem dX6_takesNumber_97 : decode cX6_takesNumber 97 = .ok (.iload_n 1, 1) := by decide +kernel
theorem dX6_takesNumber_98 : decode cX6_takesNumber 98 = .ok (.ifCond .eq 8, 3) := by decide +kernel
theorem dX6_takesNumber_101 : decode cX6_takesNumber 101 = .ok (.lload_n 2, 1) := by decide +kernel
theorem dX6_takesNumber_102 : decode cX6_takesNumber 102 = .ok (.lneg, 1) := by decide +kernel
theorem dX6_takesNumber_103 : decode cX6_takesNumber 103 = .ok (.goto 4, 3) := by decide +kernel
theorem dX6_takesNumber_106 : decode cX6_takesNumber 106 = .ok (.lload_n 2, 1) := by decide +kernel
theorem dX6_takesNumber_107 : decode cX6_takesNumber 107 = .ok (.lastore, 1) := by decide +kernel
theorem dX6_takesNumber_108 : decode cX6_takesNumber 108 = .ok (.aload_n 0, 1) := by decide +kernel
theorem dX6_takesNumber_109 : decode cX6_takesNumber 109 = .ok (.dup, 1) := by decide +kernel
theorem dX6_takesNumber_110 : decode cX6_takesNumber 110 = .ok (.getfield 279, 3) := by decide +kernel
theorem dX6_takesNumber_113 : decode cX6_takesNumber 113 = .ok (.iconst 1, 1) := by decide +kernel
theorem dX6_takesNumber_114 : decode cX6_takesNumber 114 = .ok (.iadd, 1) := by decide +kernel
theorem dX6_takesNumber_115 : decode cX6_takesNumber 115 = .ok (.putfield 279, 3) := by decide +kernel
theorem dX6_takesNumber_118 : decode cX6_takesNumber 118 = .ok (.iload 4, 2) := by decide +kernel
theorem dX6_takesNumber_120 : decode cX6_takesNumber 120 = .ok (.ifCond .le 7, 3) := by decide +kernel
theorem dX6_takesNumber_123 : decode cX6_takesNumber 123 = .ok (.iconst 1, 1) := by decide +kernel
theorem dX6_takesNumber_124 : decode cX6_takesNumber 124 = .ok (.goto 4, 3) := by decide +kernel
theorem dX6_takesNumber_127 : decode cX6_takesNumber 127 = .ok (.iconst 0, 1) := by decide +kernel
theorem dX6_takesNumber_128 : decode cX6_takesNumber 128 = .ok (.ireturn, 1) := by decide +kernel
theorem dX6_takesRow_0 : decode cX6_takesRow 0 = .ok (.iconst 0, 1) := by decide +kernel
theorem dX6_takesRow_1 : decode cX6_takesRow 1 = .ok (.istore_n 3, 1) := by decide +kernel
theorem dX6_takesRow_2 : decode cX6_takesRow 2 = .ok (.iload_n 3, 1) := by decide +kernel
theorem dX6_takesRow_3 : decode cX6_takesRow 3 = .ok (.iload_n 1, 1) := by decide +kernel
theorem dX6_takesRow_4 : decode cX6_takesRow 4 = .ok (.if_icmp .ge 32, 3) := by decide +kernel
theorem dX6_takesRow_7 : decode cX6_takesRow 7 = .ok (.iload_n 3, 1) := by decide +kernel
theorem dX6_takesRow_8 : decode cX6_takesRow 8 = .ok (.ifCond .le 13, 3) := by decide +kernel
theorem dX6_takesRow_11 : decode cX6_takesRow 11 = .ok (.aload_n 0, 1) := by decide +kernel
theorem dX6_takesRow_12 : decode cX6_takesRow 12 = .ok (.iload_n 2, 1) := by decide +kernel
theorem dX6_takesRow_13 : decode cX6_takesRow 13 = .ok (.invokevirtual 269, 3) := by decide +kernel
theorem dX6_takesRow_16 : decode cX6_takesRow 16 = .ok (.ifCond .ne 5, 3) := by decide +kernel
theorem dX6_takesRow_19 : decode cX6_takesRow 19 = .ok (.iconst 0, 1) := by decide +kernel
theorem dX6_takesRow_20 : decode cX6_takesRow 20 = .ok (.ireturn, 1) := by decide +kernel
theorem dX6_takesRow_21 : decode cX6_takesRow 21 = .ok (.aload_n 0, 1) := by decide +kernel
theorem dX6_takesRow_22 : decode cX6_takesRow 22 = .ok (.invokevirtual 282, 3) := by decide +kernel
theorem dX6_takesRow_25 : decode cX6_takesRow 25 = .ok (.ifCond .ne 5, 3) := by decide +kernel
theorem dX6_takesRow_28 : decode cX6_takesRow 28 = .ok (.iconst 0, 1) := by decide +kernel
theorem dX6_takesRow_29 : decode cX6_takesRow 29 = .ok (.ireturn, 1) := by decide +kernel
theorem dX6_takesRow_30 : decode cX6_takesRow 30 = .ok (.iinc 3 1, 3) := by decide +kernel
theorem dX6_takesRow_33 : decode cX6_takesRow 33 = .ok (.goto (-31), 3) := by decide +kernel
theorem dX6_takesRow_36 : decode cX6_takesRow 36 = .ok (.iconst 1, 1) := by decide +kernel
theorem dX6_takesRow_37 : decode cX6_takesRow 37 = .ok (.ireturn, 1) := by decide +kernel
theorem dX6_takesText_0 : decode cX6_takesText 0 = .ok (.aload_n 0, 1) := by decide +kernel
theorem dX6_takesText_1 : decode cX6_takesText 1 = .ok (.iconst 0, 1) := by decide +kernel
theorem dX6_takesText_2 : decode cX6_takesText 2 = .ok (.putfield 266, 3) := by decide +kernel
theorem dX6_takesText_5 : decode cX6_takesText 5 = .ok (.aload_n 0, 1) := by decide +kernel
theorem dX6_takesText_6 : decode cX6_takesText 6 = .ok (.iconst 0, 1) := by decide +kernel
theorem dX6_takesText_7 : decode cX6_takesText 7 = .ok (.putfield 279, 3) := by decide +kernel
theorem dX6_takesText_10 : decode cX6_takesText 10 = .ok (.aload_n 0, 1) := by decide +kernel
theorem dX6_takesText_11 : decode cX6_takesText 11 = .ok (.iconst 4, 1) := by decide +kernel
theorem dX6_takesText_12 : decode cX6_takesText 12 = .ok (.bipush 47, 2) := by decide +kernel
theorem dX6_takesText_14 : decode cX6_takesText 14 = .ok (.invokevirtual 285, 3) := by decide +kernel
theorem dX6_takesText_17 : decode cX6_takesText 17 = .ok (.istore_n 1, 1) := by decide +kernel
theorem dX6_takesText_18 : decode cX6_takesText 18 = .ok (.iload_n 1, 1) := by decide +kernel
theorem dX6_takesText_19 : decode cX6_takesText 19 = .ok (.ifCond .eq 42, 3) := by decide +kernel
theorem dX6_takesText_22 : decode cX6_takesText 22 = .ok (.aload_n 0, 1) := by decide +kernel
theorem dX6_takesText_23 : decode cX6_takesText 23 = .ok (.getfield 266, 3) := by decide +kernel
theorem dX6_takesText_26 : decode cX6_takesText 26 = .ok (.aload_n 0, 1) := by decide +kernel
theorem dX6_takesText_27 : decode cX6_takesText 27 = .ok (.getfield 263, 3) := by decide +kernel
theorem dX6_takesText_30 : decode cX6_takesText 30 = .ok (.if_icmp .ge 31, 3) := by decide +kernel
theorem dX6_takesText_33 : decode cX6_takesText 33 = .ok (.aload_n 0, 1) := by decide +kernel
theorem dX6_takesText_34 : decode cX6_takesText 34 = .ok (.bipush 59, 2) := by decide +kernel
theorem dX6_takesText_36 : decode cX6_takesText 36 = .ok (.invokevirtual 269, 3) := by decide +kernel
theorem dX6_takesText_39 : decode cX6_takesText 39 = .ok (.ifCond .eq 17, 3) := by decide +kernel
theorem dX6_takesText_42 : decode cX6_takesText 42 = .ok (.aload_n 0, 1) := by decide +kernel
theorem dX6_takesText_43 : decode cX6_takesText 43 = .ok (.iconst 5, 1) := by decide +kernel
theorem dX6_takesText_44 : decode cX6_takesText 44 = .ok (.bipush 44, 2) := by decide +kernel
theorem dX6_takesText_46 : decode cX6_takesText 46 = .ok (.invokevirtual 285, 3) := by decide +kernel
theorem dX6_takesText_49 : decode cX6_takesText 49 = .ok (.ifCond .eq 7, 3) := by decide +kernel
theorem dX6_takesText_52 : decode cX6_takesText 52 = .ok (.iconst 1, 1) := by decide +kernel
theorem dX6_takesText_53 : decode cX6_takesText 53 = .ok (.goto 4, 3) := by decide +kernel
theorem dX6_takesText_56 : decode cX6_takesText 56 = .ok (.iconst 0, 1) := by decide +kernel
theorem dX6_takesText_57 : decode cX6_takesText 57 = .ok (.istore_n 1, 1) := by decide +kernel
theorem dX6_takesText_58 : decode cX6_takesText 58 = .ok (.goto (-40), 3) := by decide +kernel
theorem dX6_takesText_61 : decode cX6_takesText 61 = .ok (.iload_n 1, 1) := by decide +kernel
theorem dX6_takesText_62 : decode cX6_takesText 62 = .ok (.ireturn, 1) := by decide +kernel
theorem dX6_areInRange_0 : decode cX6_areInRange 0 = .ok (.aload_n 0, 1) := by decide +kernel
theorem dX6_areInRange_1 : decode cX6_areInRange 1 = .ok (.getfield 44, 3) := by decide +kernel
theorem dX6_areInRange_4 : decode cX6_areInRange 4 = .ok (.iconst 0, 1) := by decide +kernel
theorem dX6_areInRange_5 : decode cX6_areInRange 5 = .ok (.laload, 1) := by decide +kernel
theorem dX6_areInRange_6 : decode cX6_areInRange 6 = .ok (.aload_n 0, 1) := by decide +kernel
theorem dX6_areInRange_7 : decode cX6_areInRange 7 = .ok (.getfield 44, 3) := by decide +kernel
theorem dX6_areInRange_10 : decode cX6_areInRange 10 = .ok (.iconst 1, 1) := by decide +kernel
theorem dX6_areInRange_11 : decode cX6_areInRange 11 = .ok (.laload, 1) := by decide +kernel
theorem dX6_areInRange_12 : decode cX6_areInRange 12 = .ok (.aload_n 0, 1) := by decide +kernel
theorem dX6_areInRange_13 : decode cX6_areInRange 13 = .ok (.getfield 44, 3) := by decide +kernel
theorem dX6_areInRange_16 : decode cX6_areInRange 16 = .ok (.iconst 3, 1) := by decide +kernel
theorem dX6_areInRange_17 : decode cX6_areInRange 17 = .ok (.laload, 1) := by decide +kernel
theorem dX6_areInRange_18 : decode cX6_areInRange 18 = .ok (.invokestatic 102, 3) := by decide +kernel
theorem dX6_areInRange_21 : decode cX6_areInRange 21 = .ok (.ifCond .eq 21, 3) := by decide +kernel
theorem dX6_areInRange_24 : decode cX6_areInRange 24 = .ok (.aload_n 0, 1) := by decide +kernel
theorem dX6_areInRange_25 : decode cX6_areInRange 25 = .ok (.getfield 44, 3) := by decide +kernel
theorem dX6_areInRange_28 : decode cX6_areInRange 28 = .ok (.iconst 2, 1) := by decide +kernel
theorem dX6_areInRange_29 : decode cX6_areInRange 29 = .ok (.laload, 1) := by decide +kernel
theorem dX6_areInRange_30 : decode cX6_areInRange 30 = .ok (.aload_n 0, 1) := by decide +kernel
theorem dX6_areInRange_31 : decode cX6_areInRange 31 = .ok (.getfield 44, 3) := by decide +kernel
theorem dX6_areInRange_34 : decode cX6_areInRange 34 = .ok (.iconst 2, 1) := by decide +kernel
theorem dX6_areInRange_35 : decode cX6_areInRange 35 = .ok (.laload, 1) := by decide +kernel
theorem dX6_areInRange_36 : decode cX6_areInRange 36 = .ok (.l2i, 1) := by decide +kernel
theorem dX6_areInRange_37 : decode cX6_areInRange 37 = .ok (.i2l, 1) := by decide +kernel
theorem dX6_areInRange_38 : decode cX6_areInRange 38 = .ok (.lcmp, 1) := by decide +kernel
theorem dX6_areInRange_39 : decode cX6_areInRange 39 = .ok (.ifCond .eq 5, 3) := by decide +kernel
theorem dX6_areInRange_42 : decode cX6_areInRange 42 = .ok (.iconst 0, 1) := by decide +kernel
theorem dX6_areInRange_43 : decode cX6_areInRange 43 = .ok (.ireturn, 1) := by decide +kernel
theorem dX6_areInRange_44 : decode cX6_areInRange 44 = .ok (.ldc2_w 289, 3) := by decide +kernel
theorem dX6_areInRange_47 : decode cX6_areInRange 47 = .ok (.lstore_n 1, 1) := by decide +kernel
theorem dX6_areInRange_48 : decode cX6_areInRange 48 = .ok (.iconst 4, 1) := by decide +kernel
theorem dX6_areInRange_49 : decode cX6_areInRange 49 = .ok (.istore_n 3, 1) := by decide +kernel
theorem dX6_areInRange_50 : decode cX6_areInRange 50 = .ok (.iload_n 3, 1) := by decide +kernel
theorem dX6_areInRange_51 : decode cX6_areInRange 51 = .ok (.aload_n 0, 1) := by decide +kernel
theorem dX6_areInRange_52 : decode cX6_areInRange 52 = .ok (.getfield 279, 3) := by decide +kernel
theorem dX6_areInRange_55 : decode cX6_areInRange 55 = .ok (.if_icmp .ge 110, 3) := by decide +kernel
theorem dX6_areInRange_58 : decode cX6_areInRange 58 = .ok (.aload_n 0, 1) := by decide +kernel
theorem dX6_areInRange_59 : decode cX6_areInRange 59 = .ok (.getfield 44, 3) := by decide +kernel
theorem dX6_areInRange_62 : decode cX6_areInRange 62 = .ok (.iload_n 3, 1) := by decide +kernel
theorem dX6_areInRange_63 : decode cX6_areInRange 63 = .ok (.laload, 1) := by decide +kernel
theorem dX6_areInRange_64 : decode cX6_areInRange 64 = .ok (.lload_n 1, 1) := by decide +kernel
theorem dX6_areInRange_65 : decode cX6_areInRange 65 = .ok (.lconst 1, 1) := by decide +kernel
theorem dX6_areInRange_66 : decode cX6_areInRange 66 = .ok (.ladd, 1) := by decide +kernel
theorem dX6_areInRange_67 : decode cX6_areInRange 67 = .ok (.ldc2_w 291, 3) := by decide +kernel
theorem dX6_areInRange_70 : decode cX6_areInRange 70 = .ok (.invokestatic 67, 3) := by decide +kernel
theorem dX6_areInRange_73 : decode cX6_areInRange 73 = .ok (.ifCond .eq 77, 3) := by decide +kernel
theorem dX6_areInRange_76 : decode cX6_areInRange 76 = .ok (.aload_n 0, 1) := by decide +kernel
theorem dX6_areInRange_77 : decode cX6_areInRange 77 = .ok (.getfield 44, 3) := by decide +kernel
theorem dX6_areInRange_80 : decode cX6_areInRange 80 = .ok (.iload_n 3, 1) := by decide +kernel
theorem dX6_areInRange_81 : decode cX6_areInRange 81 = .ok (.iconst 1, 1) := by decide +kernel
theorem dX6_areInRange_82 : decode cX6_areInRange 82 = .ok (.iadd, 1) := by decide +kernel
theorem dX6_areInRange_83 : decode cX6_areInRange 83 = .ok (.laload, 1) := by decide +kernel
theorem dX6_areInRange_84 : decode cX6_areInRange 84 = .ok (.lconst 0, 1) := by decide +kernel
theorem dX6_areInRange_85 : decode cX6_areInRange 85 = .ok (.ldc2_w 65, 3) := by decide +kernel
theorem dX6_areInRange_88 : decode cX6_areInRange 88 = .ok (.invokestatic 67, 3) := by decide +kernel
theorem dX6_areInRange_91 : decode cX6_areInRange 91 = .ok (.ifCond .eq 59, 3) := by decide +kernel
theorem dX6_areInRange_94 : decode cX6_areInRange 94 = .ok (.aload_n 0, 1) := by decide +kernel
theorem dX6_areInRange_95 : decode cX6_areInRange 95 = .ok (.getfield 44, 3) := by decide +kernel
theorem dX6_areInRange_98 : decode cX6_areInRange 98 = .ok (.iload_n 3, 1) := by decide +kernel
theorem dX6_areInRange_99 : decode cX6_areInRange 99 = .ok (.iconst 2, 1) := by decide +kernel
theorem dX6_areInRange_100 : decode cX6_areInRange 100 = .ok (.iadd, 1) := by decide +kernel
theorem dX6_areInRange_101 : decode cX6_areInRange 101 = .ok (.laload, 1) := by decide +kernel
theorem dX6_areInRange_102 : decode cX6_areInRange 102 = .ok (.lconst 0, 1) := by decide +kernel
theorem dX6_areInRange_103 : decode cX6_areInRange 103 = .ok (.ldc2_w 83, 3) := by decide +kernel
theorem dX6_areInRange_106 : decode cX6_areInRange 106 = .ok (.invokestatic 67, 3) := by decide +kernel
theorem dX6_areInRange_109 : decode cX6_areInRange 109 = .ok (.ifCond .eq 41, 3) := by decide +kernel
theorem dX6_areInRange_112 : decode cX6_areInRange 112 = .ok (.aload_n 0, 1) := by decide +kernel
theorem dX6_areInRange_113 : decode cX6_areInRange 113 = .ok (.getfield 44, 3) := by decide +kernel
theorem dX6_areInRange_116 : decode cX6_areInRange 116 = .ok (.iload_n 3, 1) := by decide +kernel
theorem dX6_areInRange_117 : decode cX6_areInRange 117 = .ok (.iconst 3, 1) := by decide +kernel
theorem dX6_areInRange_118 : decode cX6_areInRange 118 = .ok (.iadd, 1) := by decide +kernel
theorem dX6_areInRange_119 : decode cX6_areInRange 119 = .ok (.laload, 1) := by decide +kernel
theorem dX6_areInRange_120 : decode cX6_areInRange 120 = .ok (.lconst 1, 1) := by decide +kernel
theorem dX6_areInRange_121 : decode cX6_areInRange 121 = .ok (.ldc2_w 65, 3) := by decide +kernel
theorem dX6_areInRange_124 : decode cX6_areInRange 124 = .ok (.invokestatic 67, 3) := by decide +kernel
theorem dX6_areInRange_127 : decode cX6_areInRange 127 = .ok (.ifCond .eq 23, 3) := by decide +kernel
theorem dX6_areInRange_130 : decode cX6_areInRange 130 = .ok (.aload_n 0, 1) := by decide +kernel
theorem dX6_areInRange_131 : decode cX6_areInRange 131 = .ok (.getfield 44, 3) := by decide +kernel
theorem dX6_areInRange_134 : decode cX6_areInRange 134 = .ok (.iload_n 3, 1) := by decide +kernel
theorem dX6_areInRange_135 : decode cX6_areInRange 135 = .ok (.iconst 4, 1) := by decide +kernel
theorem dX6_areInRange_136 : decode cX6_areInRange 136 = .ok (.iadd, 1) := by decide +kernel
theorem dX6_areInRange_137 : decode cX6_areInRange 137 = .ok (.laload, 1) := by decide +kernel
theorem dX6_areInRange_138 : decode cX6_areInRange 138 = .ok (.ldc2_w 75, 3) := by decide +kernel
theorem dX6_areInRange_141 : decode cX6_areInRange 141 = .ok (.ldc2_w 77, 3) := by decide +kernel
theorem dX6_areInRange_144 : decode cX6_areInRange 144 = .ok (.invokestatic 67, 3) := by decide +kernel
theorem dX6_areInRange_147 : decode cX6_areInRange 147 = .ok (.ifCond .ne 5, 3) := by decide +kernel
theorem dX6_areInRange_150 : decode cX6_areInRange 150 = .ok (.iconst 0, 1) := by decide +kernel
theorem dX6_areInRange_151 : decode cX6_areInRange 151 = .ok (.ireturn, 1) := by decide +kernel
theorem dX6_areInRange_152 : decode cX6_areInRange 152 = .ok (.aload_n 0, 1) := by decide +kernel
theorem dX6_areInRange_153 : decode cX6_areInRange 153 = .ok (.getfield 44, 3) := by decide +kernel
theorem dX6_areInRange_156 : decode cX6_areInRange 156 = .ok (.iload_n 3, 1) := by decide +kernel
theorem dX6_areInRange_157 : decode cX6_areInRange 157 = .ok (.laload, 1) := by decide +kernel
theorem dX6_areInRange_158 : decode cX6_areInRange 158 = .ok (.lstore_n 1, 1) := by decide +kernel
theorem dX6_areInRange_159 : decode cX6_areInRange 159 = .ok (.iinc 3 5, 3) := by decide +kernel
theorem dX6_areInRange_162 : decode cX6_areInRange 162 = .ok (.goto (-112), 3) := by decide +kernel
theorem dX6_areInRange_165 : decode cX6_areInRange 165 = .ok (.iconst 1, 1) := by decide +kernel
theorem dX6_areInRange_166 : decode cX6_areInRange 166 = .ok (.ireturn, 1) := by decide +kernel
theorem dX6_read_0 : decode cX6_read 0 = .ok (.iload_n 1, 1) := by decide +kernel
theorem dX6_read_1 : decode cX6_read 1 = .ok (.invokestatic 96, 3) := by decide +kernel
theorem dX6_read_4 : decode cX6_read 4 = .ok (.ifCond .ne 9, 3) := by decide +kernel
theorem dX6_read_7 : decode cX6_read 7 = .ok (.aload_n 0, 1) := by decide +kernel
theorem dX6_read_8 : decode cX6_read 8 = .ok (.iconst 1, 1) := by decide +kernel
theorem dX6_read_9 : decode cX6_read 9 = .ok (.invokevirtual 99, 3) := by decide +kernel
theorem dX6_read_12 : decode cX6_read 12 = .ok (.ireturn, 1) := by decide +kernel
theorem dX6_read_13 : decode cX6_read 13 = .ok (.aload_n 0, 1) := by decide +kernel
theorem dX6_read_14 : decode cX6_read 14 = .ok (.invokevirtual 293, 3) := by decide +kernel
theorem dX6_read_17 : decode cX6_read 17 = .ok (.istore_n 2, 1) := by decide +kernel
theorem dX6_read_18 : decode cX6_read 18 = .ok (.aload_n 0, 1) := by decide +kernel
theorem dX6_read_19 : decode cX6_read 19 = .ok (.iconst 0, 1) := by decide +kernel
theorem dX6_read_20 : decode cX6_read 20 = .ok (.putfield 263, 3) := by decide +kernel
theorem dX6_read_23 : decode cX6_read 23 = .ok (.aload_n 0, 1) := by decide +kernel
theorem dX6_read_24 : decode cX6_read 24 = .ok (.iconst 0, 1) := by decide +kernel
theorem dX6_read_25 : decode cX6_read 25 = .ok (.putfield 57, 3) := by decide +kernel
theorem dX6_read_28 : decode cX6_read 28 = .ok (.iload_n 2, 1) := by decide +kernel
theorem dX6_read_29 : decode cX6_read 29 = .ok (.ifCond .ne 11, 3) := by decide +kernel
theorem dX6_read_32 : decode cX6_read 32 = .ok (.bipush (-100), 2) := by decide +kernel
theorem dX6_read_34 : decode cX6_read 34 = .ok (.aload_n 0, 1) := by decide +kernel
theorem dX6_read_35 : decode cX6_read 35 = .ok (.getfield 266, 3) := by decide +kernel
theorem dX6_read_38 : decode cX6_read 38 = .ok (.isub, 1) := by decide +kernel
theorem dX6_read_39 : decode cX6_read 39 = .ok (.ireturn, 1) := by decide +kernel
theorem dX6_read_40 : decode cX6_read 40 = .ok (.aload_n 0, 1) := by decide +kernel
theorem dX6_read_41 : decode cX6_read 41 = .ok (.invokevirtual 296, 3) := by decide +kernel
theorem dX6_read_44 : decode cX6_read 44 = .ok (.ifCond .ne 9, 3) := by decide +kernel
theorem dX6_read_47 : decode cX6_read 47 = .ok (.aload_n 0, 1) := by decide +kernel
theorem dX6_read_48 : decode cX6_read 48 = .ok (.iconst 2, 1) := by decide +kernel
theorem dX6_read_49 : decode cX6_read 49 = .ok (.invokevirtual 99, 3) := by decide +kernel
theorem dX6_read_52 : decode cX6_read 52 = .ok (.ireturn, 1) := by decide +kernel
theorem dX6_read_53 : decode cX6_read 53 = .ok (.aload_n 0, 1) := by decide +kernel
theorem dX6_read_54 : decode cX6_read 54 = .ok (.getfield 279, 3) := by decide +kernel
theorem dX6_read_57 : decode cX6_read 57 = .ok (.iconst 4, 1) := by decide +kernel
theorem dX6_read_58 : decode cX6_read 58 = .ok (.isub, 1) := by decide +kernel
theorem dX6_read_59 : decode cX6_read 59 = .ok (.iconst 5, 1) := by decide +kernel
theorem dX6_read_60 : decode cX6_read 60 = .ok (.idiv, 1) := by decide +kernel
theorem dX6_read_61 : decode cX6_read 61 = .ok (.istore_n 3, 1) := by decide +kernel
theorem dX6_read_62 : decode cX6_read 62 = .ok (.iload_n 3, 1) := by decide +kernel
theorem dX6_read_63 : decode cX6_read 63 = .ok (.i2l, 1) := by decide +kernel
theorem dX6_read_64 : decode cX6_read 64 = .ok (.aload_n 0, 1) := by decide +kernel
theorem dX6_read_65 : decode cX6_read 65 = .ok (.getfield 44, 3) := by decide +kernel
theorem dX6_read_68 : decode cX6_read 68 = .ok (.iconst 3, 1) := by decide +kernel
theorem dX6_read_69 : decode cX6_read 69 = .ok (.laload, 1) := by decide +kernel
theorem dX6_read_70 : decode cX6_read 70 = .ok (.lconst 0, 1) := by decide +kernel
theorem dX6_read_71 : decode cX6_read 71 = .ok (.lcmp, 1) := by decide +kernel
theorem dX6_read_72 : decode cX6_read 72 = .ok (.ifCond .ne 9, 3) := by decide +kernel
theorem dX6_read_75 : decode cX6_read 75 = .ok (.ldc2_w 135, 3) := by decide +kernel
theorem dX6_read_78 : decode cX6_read 78 = .ok (.goto 9, 3) := by decide +kernel
theorem dX6_read_81 : decode cX6_read 81 = .ok (.aload_n 0, 1) := by decide +kernel
theorem dX6_read_82 : decode cX6_read 82 = .ok (.getfield 44, 3) := by decide +kernel
theorem dX6_read_85 : decode cX6_read 85 = .ok (.iconst 3, 1) := by decide +kernel
theorem dX6_read_86 : decode cX6_read 86 = .ok (.laload, 1) := by decide +kernel
theorem dX6_read_87 : decode cX6_read 87 = .ok (.lcmp, 1) := by decide +kernel
theorem dX6_read_88 : decode cX6_read 88 = .ok (.ifCond .le 9, 3) := by decide +kernel
theorem dX6_read_91 : decode cX6_read 91 = .ok (.aload_n 0, 1) := by decide +kernel
theorem dX6_read_92 : decode cX6_read 92 = .ok (.iconst 3, 1) := by decide +kernel
theorem dX6_read_93 : decode cX6_read 93 = .ok (.invokevirtual 99, 3) := by decide +kernel
theorem dX6_read_96 : decode cX6_read 96 = .ok (.ireturn, 1) := by decide +kernel
theorem dX6_read_97 : decode cX6_read 97 = .ok (.aload_n 0, 1) := by decide +kernel
theorem dX6_read_98 : decode cX6_read 98 = .ok (.invokevirtual 105, 3) := by decide +kernel
theorem dX6_read_101 : decode cX6_read 101 = .ok (.aload_n 0, 1) := by decide +kernel
theorem dX6_read_102 : decode cX6_read 102 = .ok (.iload_n 1, 1) := by decide +kernel
theorem dX6_read_103 : decode cX6_read 103 = .ok (.aload_n 0, 1) := by decide +kernel
theorem dX6_read_104 : decode cX6_read 104 = .ok (.getfield 44, 3) := by decide +kernel
theorem dX6_read_107 : decode cX6_read 107 = .ok (.iconst 0, 1) := by decide +kernel
theorem dX6_read_108 : decode cX6_read 108 = .ok (.laload, 1) := by decide +kernel
theorem dX6_read_109 : decode cX6_read 109 = .ok (.l2i, 1) := by decide +kernel
theorem dX6_read_110 : decode cX6_read 110 = .ok (.aload_n 0, 1) := by decide +kernel
theorem dX6_read_111 : decode cX6_read 111 = .ok (.getfield 44, 3) := by decide +kernel
theorem dX6_read_114 : decode cX6_read 114 = .ok (.iconst 1, 1) := by decide +kernel
theorem dX6_read_115 : decode cX6_read 115 = .ok (.laload, 1) := by decide +kernel
theorem dX6_read_116 : decode cX6_read 116 = .ok (.l2i, 1) := by decide +kernel
theorem dX6_read_117 : decode cX6_read 117 = .ok (.aload_n 0, 1) := by decide +kernel
theorem dX6_read_118 : decode cX6_read 118 = .ok (.getfield 44, 3) := by decide +kernel
theorem dX6_read_121 : decode cX6_read 121 = .ok (.iconst 2, 1) := by decide +kernel
theorem dX6_read_122 : decode cX6_read 122 = .ok (.laload, 1) := by decide +kernel
theorem dX6_read_123 : decode cX6_read 123 = .ok (.l2i, 1) := by decide +kernel
theorem dX6_read_124 : decode cX6_read 124 = .ok (.aload_n 0, 1) := by decide +kernel
theorem dX6_read_125 : decode cX6_read 125 = .ok (.getfield 44, 3) := by decide +kernel
theorem dX6_read_128 : decode cX6_read 128 = .ok (.iconst 3, 1) := by decide +kernel
theorem dX6_read_129 : decode cX6_read 129 = .ok (.laload, 1) := by decide +kernel
theorem dX6_read_130 : decode cX6_read 130 = .ok (.l2i, 1) := by decide +kernel
theorem dX6_read_131 : decode cX6_read 131 = .ok (.invokevirtual 111, 3) := by decide +kernel
theorem dX6_read_134 : decode cX6_read 134 = .ok (.iconst 0, 1) := by decide +kernel
theorem dX6_read_135 : decode cX6_read 135 = .ok (.istore 4, 2) := by decide +kernel
theorem dX6_read_137 : decode cX6_read 137 = .ok (.iload 4, 2) := by decide +kernel
theorem dX6_read_139 : decode cX6_read 139 = .ok (.iload_n 3, 1) := by decide +kernel
theorem dX6_read_140 : decode cX6_read 140 = .ok (.if_icmp .ge 121, 3) := by decide +kernel
theorem dX6_read_143 : decode cX6_read 143 = .ok (.iconst 4, 1) := by decide +kernel
theorem dX6_read_144 : decode cX6_read 144 = .ok (.iconst 5, 1) := by decide +kernel
theorem dX6_read_145 : decode cX6_read 145 = .ok (.iload 4, 2) := by decide +kernel
theorem dX6_read_147 : decode cX6_read 147 = .ok (.imul, 1) := by decide +kernel
theorem dX6_read_148 : decode cX6_read 148 = .ok (.iadd, 1) := by decide +kernel
theorem dX6_read_149 : decode cX6_read 149 = .ok (.istore 5, 2) := by decide +kernel
theorem dX6_read_151 : decode cX6_read 151 = .ok (.aload_n 0, 1) := by decide +kernel
theorem dX6_read_152 : decode cX6_read 152 = .ok (.iload_n 1, 1) := by decide +kernel
theorem dX6_read_153 : decode cX6_read 153 = .ok (.iload 4, 2) := by decide +kernel
theorem dX6_read_155 : decode cX6_read 155 = .ok (.aload_n 0, 1) := by decide +kernel
theorem dX6_read_156 : decode cX6_read 156 = .ok (.getfield 44, 3) := by decide +kernel
theorem dX6_read_159 : decode cX6_read 159 = .ok (.iload 5, 2) := by decide +kernel
theorem dX6_read_161 : decode cX6_read 161 = .ok (.laload, 1) := by decide +kernel
theorem dX6_read_162 : decode cX6_read 162 = .ok (.l2i, 1) := by decide +kernel
theorem dX6_read_163 : decode cX6_read 163 = .ok (.aload_n 0, 1) := by decide +kernel
theorem dX6_read_164 : decode cX6_read 164 = .ok (.getfield 44, 3) := by decide +kernel
theorem dX6_read_167 : decode cX6_read 167 = .ok (.iload 5, 2) := by decide +kernel
theorem dX6_read_169 : decode cX6_read 169 = .ok (.iconst 1, 1) := by decide +kernel
theorem dX6_read_170 : decode cX6_read 170 = .ok (.iadd, 1) := by decide +kernel
theorem dX6_read_171 : decode cX6_read 171 = .ok (.laload, 1) := by decide +kernel
theorem dX6_read_172 : decode cX6_read 172 = .ok (.l2i, 1) := by decide +kernel
theorem dX6_read_173 : decode cX6_read 173 = .ok (.aload_n 0, 1) := by decide +kernel
theorem dX6_read_174 : decode cX6_read 174 = .ok (.getfield 44, 3) := by decide +kernel
theorem dX6_read_177 : decode cX6_read 177 = .ok (.iload 5, 2) := by decide +kernel
theorem dX6_read_179 : decode cX6_read 179 = .ok (.iconst 2, 1) := by decide +kernel
theorem dX6_read_180 : decode cX6_read 180 = .ok (.iadd, 1) := by decide +kernel
theorem dX6_read_181 : decode cX6_read 181 = .ok (.laload, 1) := by decide +kernel
theorem dX6_read_182 : decode cX6_read 182 = .ok (.l2i, 1) := by decide +kernel
theorem dX6_read_183 : decode cX6_read 183 = .ok (.aload_n 0, 1) := by decide +kernel
theorem dX6_read_184 : decode cX6_read 184 = .ok (.getfield 44, 3) := by decide +kernel
theorem dX6_read_187 : decode cX6_read 187 = .ok (.iload 5, 2) := by decide +kernel
theorem dX6_read_189 : decode cX6_read 189 = .ok (.iconst 3, 1) := by decide +kernel
theorem dX6_read_190 : decode cX6_read 190 = .ok (.iadd, 1) := by decide +kernel
theorem dX6_read_191 : decode cX6_read 191 = .ok (.laload, 1) := by decide +kernel
theorem dX6_read_192 : decode cX6_read 192 = .ok (.l2i, 1) := by decide +kernel
theorem dX6_read_193 : decode cX6_read 193 = .ok (.aload_n 0, 1) := by decide +kernel
theorem dX6_read_194 : decode cX6_read 194 = .ok (.getfield 44, 3) := by decide +kernel
theorem dX6_read_197 : decode cX6_read 197 = .ok (.iload 5, 2) := by decide +kernel
theorem dX6_read_199 : decode cX6_read 199 = .ok (.iconst 4, 1) := by decide +kernel
theorem dX6_read_200 : decode cX6_read 200 = .ok (.iadd, 1) := by decide +kernel
theorem dX6_read_201 : decode cX6_read 201 = .ok (.laload, 1) := by decide +kernel
theorem dX6_read_202 : decode cX6_read 202 = .ok (.l2i, 1) := by decide +kernel
theorem dX6_read_203 : decode cX6_read 203 = .ok (.invokevirtual 119, 3) := by decide +kernel
theorem dX6_read_206 : decode cX6_read 206 = .ok (.aload_n 0, 1) := by decide +kernel
theorem dX6_read_207 : decode cX6_read 207 = .ok (.getfield 7, 3) := by decide +kernel
theorem dX6_read_210 : decode cX6_read 210 = .ok (.sipush 1240, 3) := by decide +kernel
theorem dX6_read_213 : decode cX6_read 213 = .ok (.aload_n 0, 1) := by decide +kernel
theorem dX6_read_214 : decode cX6_read 214 = .ok (.getfield 44, 3) := by decide +kernel
theorem dX6_read_217 : decode cX6_read 217 = .ok (.iload 5, 2) := by decide +kernel
theorem dX6_read_219 : decode cX6_read 219 = .ok (.laload, 1) := by decide +kernel
theorem dX6_read_220 : decode cX6_read 220 = .ok (.aload_n 0, 1) := by decide +kernel
theorem dX6_read_221 : decode cX6_read 221 = .ok (.getfield 7, 3) := by decide +kernel
theorem dX6_read_224 : decode cX6_read 224 = .ok (.sipush 1240, 3) := by decide +kernel
theorem dX6_read_227 : decode cX6_read 227 = .ok (.iaload, 1) := by decide +kernel
theorem dX6_read_228 : decode cX6_read 228 = .ok (.i2l, 1) := by decide +kernel
theorem dX6_read_229 : decode cX6_read 229 = .ok (.lcmp, 1) := by decide +kernel
theorem dX6_read_230 : decode cX6_read 230 = .ok (.ifCond .lt 16, 3) := by decide +kernel
theorem dX6_read_233 : decode cX6_read 233 = .ok (.aload_n 0, 1) := by decide +kernel
theorem dX6_read_234 : decode cX6_read 234 = .ok (.getfield 44, 3) := by decide +kernel
theorem dX6_read_237 : decode cX6_read 237 = .ok (.iload 5, 2) := by decide +kernel
theorem dX6_read_239 : decode cX6_read 239 = .ok (.laload, 1) := by decide +kernel
theorem dX6_read_240 : decode cX6_read 240 = .ok (.l2i, 1) := by decide +kernel
theorem dX6_read_241 : decode cX6_read 241 = .ok (.iconst 1, 1) := by decide +kernel
theorem dX6_read_242 : decode cX6_read 242 = .ok (.iadd, 1) := by decide +kernel
theorem dX6_read_243 : decode cX6_read 243 = .ok (.goto 11, 3) := by decide +kernel
theorem dX6_read_246 : decode cX6_read 246 = .ok (.aload_n 0, 1) := by decide +kernel
theorem dX6_read_247 : decode cX6_read 247 = .ok (.getfield 7, 3) := by decide +kernel
theorem dX6_read_250 : decode cX6_read 250 = .ok (.sipush 1240, 3) := by decide +kernel
theorem dX6_read_253 : decode cX6_read 253 = .ok (.iaload, 1) := by decide +kernel
theorem dX6_read_254 : decode cX6_read 254 = .ok (.iastore, 1) := by decide +kernel
theorem dX6_read_255 : decode cX6_read 255 = .ok (.iinc 4 1, 3) := by decide +kernel
theorem dX6_read_258 : decode cX6_read 258 = .ok (.goto (-121), 3) := by decide +kernel
theorem dX6_read_261 : decode cX6_read 261 = .ok (.aload_n 0, 1) := by decide +kernel
theorem dX6_read_262 : decode cX6_read 262 = .ok (.iload_n 1, 1) := by decide +kernel
theorem dX6_read_263 : decode cX6_read 263 = .ok (.bipush 9, 2) := by decide +kernel
theorem dX6_read_265 : decode cX6_read 265 = .ok (.iload_n 3, 1) := by decide +kernel
theorem dX6_read_266 : decode cX6_read 266 = .ok (.invokevirtual 79, 3) := by decide +kernel
theorem dX6_read_269 : decode cX6_read 269 = .ok (.iload_n 3, 1) := by decide +kernel
theorem dX6_read_270 : decode cX6_read 270 = .ok (.ireturn, 1) := by decide +kernel
theorem dX6_prints_0 : decode cX6_prints 0 = .ok (.iload_n 1, 1) := by decide +kernel
theorem dX6_prints_1 : decode cX6_prints 1 = .ok (.bipush 32, 2) := by decide +kernel
theorem dX6_prints_3 : decode cX6_prints 3 = .ok (.if_icmp .eq 8, 3) := by decide +kernel
theorem dX6_prints_6 : decode cX6_prints 6 = .ok (.aload_n 0, 1) := by decide +kernel
theorem dX6_prints_7 : decode cX6_prints 7 = .ok (.iload_n 1, 1) := by decide +kernel
theorem dX6_prints_8 : decode cX6_prints 8 = .ok (.invokevirtual 299, 3) := by decide +kernel
theorem dX6_prints_11 : decode cX6_prints 11 = .ok (.iload_n 2, 1) := by decide +kernel
theorem dX6_prints_12 : decode cX6_prints 12 = .ok (.ifCond .ge 9, 3) := by decide +kernel
theorem dX6_prints_15 : decode cX6_prints 15 = .ok (.aload_n 0, 1) := by decide +kernel
theorem dX6_prints_16 : decode cX6_prints 16 = .ok (.bipush 45, 2) := by decide +kernel
theorem dX6_prints_18 : decode cX6_prints 18 = .ok (.invokevirtual 299, 3) := by decide +kernel
theorem dX6_prints_21 : decode cX6_prints 21 = .ok (.iload_n 2, 1) := by decide +kernel
theorem dX6_prints_22 : decode cX6_prints 22 = .ok (.ifCond .ge 9, 3) := by decide +kernel
theorem dX6_prints_25 : decode cX6_prints 25 = .ok (.iload_n 2, 1) := by decide +kernel
theorem dX6_prints_26 : decode cX6_prints 26 = .ok (.i2l, 1) := by decide +kernel
theorem dX6_prints_27 : decode cX6_prints 27 = .ok (.lneg, 1) := by decide +kernel
theorem dX6_prints_28 : decode cX6_prints 28 = .ok (.goto 5, 3) := by decide +kernel
theorem dX6_prints_31 : decode cX6_prints 31 = .ok (.iload_n 2, 1) := by decide +kernel
theorem dX6_prints_32 : decode cX6_prints 32 = .ok (.i2l, 1) := by decide +kernel
theorem dX6_prints_33 : decode cX6_prints 33 = .ok (.lstore_n 3, 1) := by decide +kernel
theorem dX6_prints_34 : decode cX6_prints 34 = .ok (.lconst 1, 1) := by decide +kernel
theorem dX6_prints_35 : decode cX6_prints 35 = .ok (.lstore 5, 2) := by decide +kernel
theorem dX6_prints_37 : decode cX6_prints 37 = .ok (.lload_n 3, 1) := by decide +kernel
theorem dX6_prints_38 : decode cX6_prints 38 = .ok (.lload 5, 2) := by decide +kernel
theorem dX6_prints_40 : decode cX6_prints 40 = .ok (.ldiv, 1) := by decide +kernel
theorem dX6_prints_41 : decode cX6_prints 41 = .ok (.ldc2_w 303, 3) := by decide +kernel
theorem dX6_prints_44 : decode cX6_prints 44 = .ok (.lcmp, 1) := by decide +kernel
theorem dX6_prints_45 : decode cX6_prints 45 = .ok (.ifCond .le 14, 3) := by decide +kernel
theorem dX6_prints_48 : decode cX6_prints 48 = .ok (.lload 5, 2) := by decide +kernel
theorem dX6_prints_50 : decode cX6_prints 50 = .ok (.ldc2_w 277, 3) := by decide +kernel
theorem dX6_prints_53 : decode cX6_prints 53 = .ok (.lmul, 1) := by decide +kernel
theorem dX6_prints_54 : decode cX6_prints 54 = .ok (.lstore 5, 2) := by decide +kernel
theorem dX6_prints_56 : decode cX6_prints 56 = .ok (.goto (-19), 3) := by decide +kernel
theorem dX6_prints_59 : decode cX6_prints 59 = .ok (.lload 5, 2) := by decide +kernel
theorem dX6_prints_61 : decode cX6_prints 61 = .ok (.lconst 0, 1) := by decide +kernel
theorem dX6_prints_62 : decode cX6_prints 62 = .ok (.lcmp, 1) := by decide +kernel
theorem dX6_prints_63 : decode cX6_prints 63 = .ok (.ifCond .le 32, 3) := by decide +kernel
theorem dX6_prints_66 : decode cX6_prints 66 = .ok (.aload_n 0, 1) := by decide +kernel
theorem dX6_prints_67 : decode cX6_prints 67 = .ok (.ldc2_w 273, 3) := by decide +kernel
theorem dX6_prints_70 : decode cX6_prints 70 = .ok (.lload_n 3, 1) := by decide +kernel
theorem dX6_prints_71 : decode cX6_prints 71 = .ok (.lload 5, 2) := by decide +kernel
theorem dX6_prints_73 : decode cX6_prints 73 = .ok (.ldiv, 1) := by decide +kernel
theorem dX6_prints_74 : decode cX6_prints 74 = .ok (.ldc2_w 277, 3) := by decide +kernel
theorem dX6_prints_77 : decode cX6_prints 77 = .ok (.lrem, 1) := by decide +kernel
theorem dX6_prints_78 : decode cX6_prints 78 = .ok (.ladd, 1) := by decide +kernel
theorem dX6_prints_79 : decode cX6_prints 79 = .ok (.l2i, 1) := by decide +kernel
theorem dX6_prints_80 : decode cX6_prints 80 = .ok (.i2c, 1) := by decide +kernel
theorem dX6_prints_81 : decode cX6_prints 81 = .ok (.invokevirtual 299, 3) := by decide +kernel
theorem dX6_prints_84 : decode cX6_prints 84 = .ok (.lload 5, 2) := by decide +kernel
theorem dX6_prints_86 : decode cX6_prints 86 = .ok (.ldc2_w 277, 3) := by decide +kernel
theorem dX6_prints_89 : decode cX6_prints 89 = .ok (.ldiv, 1) := by decide +kernel
theorem dX6_prints_90 : decode cX6_prints 90 = .ok (.lstore 5, 2) := by decide +kernel
theorem dX6_prints_92 : decode cX6_prints 92 = .ok (.goto (-33), 3) := by decide +kernel
theorem dX6_prints_95 : decode cX6_prints 95 = .ok (.return_, 1) := by decide +kernel
theorem dX6_sign_0 : decode cX6_sign 0 = .ok (.aload_n 0, 1) := by decide +kernel
theorem dX6_sign_1 : decode cX6_sign 1 = .ok (.getfield 48, 3) := by decide +kernel
theorem dX6_sign_4 : decode cX6_sign 4 = .ok (.aload_n 0, 1) := by decide +kernel
theorem dX6_sign_5 : decode cX6_sign 5 = .ok (.getfield 305, 3) := by decide +kernel
theorem dX6_sign_8 : decode cX6_sign 8 = .ok (.iload_n 1, 1) := by decide +kernel
theorem dX6_sign_9 : decode cX6_sign 9 = .ok (.iastore, 1) := by decide +kernel
theorem dX6_sign_10 : decode cX6_sign 10 = .ok (.aload_n 0, 1) := by decide +kernel
theorem dX6_sign_11 : decode cX6_sign 11 = .ok (.dup, 1) := by decide +kernel
theorem dX6_sign_12 : decode cX6_sign 12 = .ok (.getfield 305, 3) := by decide +kernel
theorem dX6_sign_15 : decode cX6_sign 15 = .ok (.iconst 1, 1) := by decide +kernel
theorem dX6_sign_16 : decode cX6_sign 16 = .ok (.iadd, 1) := by decide +kernel
theorem dX6_sign_17 : decode cX6_sign 17 = .ok (.putfield 305, 3) := by decide +kernel
theorem dX6_sign_20 : decode cX6_sign 20 = .ok (.return_, 1) := by decide +kernel
theorem dX6_write_0 : decode cX6_write 0 = .ok (.iload_n 1, 1) := by decide +kernel
theorem dX6_write_1 : decode cX6_write 1 = .ok (.invokestatic 96, 3) := by decide +kernel
theorem dX6_write_4 : decode cX6_write 4 = .ok (.ifCond .ne 9, 3) := by decide +kernel
theorem dX6_write_7 : decode cX6_write 7 = .ok (.aload_n 0, 1) := by decide +kernel
theorem dX6_write_8 : decode cX6_write 8 = .ok (.iconst 1, 1) := by decide +kernel
theorem dX6_write_9 : decode cX6_write 9 = .ok (.invokevirtual 99, 3) := by decide +kernel
theorem dX6_write_12 : decode cX6_write 12 = .ok (.ireturn, 1) := by decide +kernel
theorem dX6_write_13 : decode cX6_write 13 = .ok (.aload_n 0, 1) := by decide +kernel
theorem dX6_write_14 : decode cX6_write 14 = .ok (.iload_n 1, 1) := by decide +kernel
theorem dX6_write_15 : decode cX6_write 15 = .ok (.invokevirtual 89, 3) := by decide +kernel
theorem dX6_write_18 : decode cX6_write 18 = .ok (.ifCond .ne 9, 3) := by decide +kernel
theorem dX6_write_21 : decode cX6_write 21 = .ok (.aload_n 0, 1) := by decide +kernel
theorem dX6_write_22 : decode cX6_write 22 = .ok (.iconst 2, 1) := by decide +kernel
theorem dX6_write_23 : decode cX6_write 23 = .ok (.invokevirtual 99, 3) := by decide +kernel
theorem dX6_write_26 : decode cX6_write 26 = .ok (.ireturn, 1) := by decide +kernel
theorem dX6_write_27 : decode cX6_write 27 = .ok (.aload_n 0, 1) := by decide +kernel
theorem dX6_write_28 : decode cX6_write 28 = .ok (.iconst 0, 1) := by decide +kernel
theorem dX6_write_29 : decode cX6_write 29 = .ok (.putfield 57, 3) := by decide +kernel
theorem dX6_write_32 : decode cX6_write 32 = .ok (.aload_n 0, 1) := by decide +kernel
theorem dX6_write_33 : decode cX6_write 33 = .ok (.iconst 0, 1) := by decide +kernel
theorem dX6_write_34 : decode cX6_write 34 = .ok (.putfield 305, 3) := by decide +kernel
theorem dX6_write_37 : decode cX6_write 37 = .ok (.aload_n 0, 1) := by decide +kernel
theorem dX6_write_38 : decode cX6_write 38 = .ok (.bipush 32, 2) := by decide +kernel
theorem dX6_write_40 : decode cX6_write 40 = .ok (.aload_n 0, 1) := by decide +kernel
theorem dX6_write_41 : decode cX6_write 41 = .ok (.iload_n 1, 1) := by decide +kernel
theorem dX6_write_42 : decode cX6_write 42 = .ok (.iconst 1, 1) := by decide +kernel
theorem dX6_write_43 : decode cX6_write 43 = .ok (.invokevirtual 61, 3) := by decide +kernel
theorem dX6_write_46 : decode cX6_write 46 = .ok (.invokevirtual 308, 3) := by decide +kernel
theorem dX6_write_49 : decode cX6_write 49 = .ok (.aload_n 0, 1) := by decide +kernel
theorem dX6_write_50 : decode cX6_write 50 = .ok (.bipush 47, 2) := by decide +kernel
theorem dX6_write_52 : decode cX6_write 52 = .ok (.aload_n 0, 1) := by decide +kernel
theorem dX6_write_53 : decode cX6_write 53 = .ok (.iload_n 1, 1) := by decide +kernel
theorem dX6_write_54 : decode cX6_write 54 = .ok (.iconst 2, 1) := by decide +kernel
theorem dX6_write_55 : decode cX6_write 55 = .ok (.invokevirtual 61, 3) := by decide +kernel
theorem dX6_write_58 : decode cX6_write 58 = .ok (.invokevirtual 308, 3) := by decide +kernel
theorem dX6_write_61 : decode cX6_write 61 = .ok (.aload_n 0, 1) := by decide +kernel
theorem dX6_write_62 : decode cX6_write 62 = .ok (.bipush 47, 2) := by decide +kernel
theorem dX6_write_64 : decode cX6_write 64 = .ok (.aload_n 0, 1) := by decide +kernel
theorem dX6_write_65 : decode cX6_write 65 = .ok (.iload_n 1, 1) := by decide +kernel
theorem dX6_write_66 : decode cX6_write 66 = .ok (.iconst 3, 1) := by decide +kernel
theorem dX6_write_67 : decode cX6_write 67 = .ok (.invokevirtual 61, 3) := by decide +kernel
theorem dX6_write_70 : decode cX6_write 70 = .ok (.invokevirtual 308, 3) := by decide +kernel
theorem dX6_write_73 : decode cX6_write 73 = .ok (.aload_n 0, 1) := by decide +kernel
theorem dX6_write_74 : decode cX6_write 74 = .ok (.bipush 47, 2) := by decide +kernel
theorem dX6_write_76 : decode cX6_write 76 = .ok (.aload_n 0, 1) := by decide +kernel
theorem dX6_write_77 : decode cX6_write 77 = .ok (.iload_n 1, 1) := by decide +kernel
theorem dX6_write_78 : decode cX6_write 78 = .ok (.iconst 4, 1) := by decide +kernel
theorem dX6_write_79 : decode cX6_write 79 = .ok (.invokevirtual 61, 3) := by decide +kernel
theorem dX6_write_82 : decode cX6_write 82 = .ok (.invokevirtual 308, 3) := by decide +kernel
theorem dX6_write_85 : decode cX6_write 85 = .ok (.iconst 0, 1) := by decide +kernel
theorem dX6_write_86 : decode cX6_write 86 = .ok (.istore_n 2, 1) := by decide +kernel
theorem dX6_write_87 : decode cX6_write 87 = .ok (.iload_n 2, 1) := by decide +kernel
theorem dX6_write_88 : decode cX6_write 88 = .ok (.aload_n 0, 1) := by decide +kernel
theorem dX6_write_89 : decode cX6_write 89 = .ok (.iload_n 1, 1) := by decide +kernel
theorem dX6_write_90 : decode cX6_write 90 = .ok (.invokevirtual 92, 3) := by decide +kernel
theorem dX6_write_93 : decode cX6_write 93 = .ok (.if_icmp .ge 48, 3) := by decide +kernel
theorem dX6_write_96 : decode cX6_write 96 = .ok (.aload_n 0, 1) := by decide +kernel
theorem dX6_write_97 : decode cX6_write 97 = .ok (.bipush 59, 2) := by decide +kernel
theorem dX6_write_99 : decode cX6_write 99 = .ok (.aload_n 0, 1) := by decide +kernel
theorem dX6_write_100 : decode cX6_write 100 = .ok (.iload_n 1, 1) := by decide +kernel
theorem dX6_write_101 : decode cX6_write 101 = .ok (.iload_n 2, 1) := by decide +kernel
theorem dX6_write_102 : decode cX6_write 102 = .ok (.iconst 0, 1) := by decide +kernel
theorem dX6_write_103 : decode cX6_write 103 = .ok (.invokevirtual 115, 3) := by decide +kernel
theorem dX6_write_106 : decode cX6_write 106 = .ok (.invokevirtual 308, 3) := by decide +kernel
theorem dX6_write_109 : decode cX6_write 109 = .ok (.iconst 1, 1) := by decide +kernel
theorem dX6_write_110 : decode cX6_write 110 = .ok (.istore_n 3, 1) := by decide +kernel
theorem dX6_write_111 : decode cX6_write 111 = .ok (.iload_n 3, 1) := by decide +kernel
theorem dX6_write_112 : decode cX6_write 112 = .ok (.iconst 5, 1) := by decide +kernel
theorem dX6_write_113 : decode cX6_write 113 = .ok (.if_icmp .ge 22, 3) := by decide +kernel
theorem dX6_write_116 : decode cX6_write 116 = .ok (.aload_n 0, 1) := by decide +kernel
theorem dX6_write_117 : decode cX6_write 117 = .ok (.bipush 44, 2) := by decide +kernel
theorem dX6_write_119 : decode cX6_write 119 = .ok (.aload_n 0, 1) := by decide +kernel
theorem dX6_write_120 : decode cX6_write 120 = .ok (.iload_n 1, 1) := by decide +kernel
theorem dX6_write_121 : decode cX6_write 121 = .ok (.iload_n 2, 1) := by decide +kernel
theorem dX6_write_122 : decode cX6_write 122 = .ok (.iload_n 3, 1) := by decide +kernel
theorem dX6_write_123 : decode cX6_write 123 = .ok (.invokevirtual 115, 3) := by decide +kernel
theorem dX6_write_126 : decode cX6_write 126 = .ok (.invokevirtual 308, 3) := by decide +kernel
theorem dX6_write_129 : decode cX6_write 129 = .ok (.iinc 3 1, 3) := by decide +kernel
theorem dX6_write_132 : decode cX6_write 132 = .ok (.goto (-21), 3) := by decide +kernel
theorem dX6_write_135 : decode cX6_write 135 = .ok (.iinc 2 1, 3) := by decide +kernel
theorem dX6_write_138 : decode cX6_write 138 = .ok (.goto (-51), 3) := by decide +kernel
theorem dX6_write_141 : decode cX6_write 141 = .ok (.aload_n 0, 1) := by decide +kernel
theorem dX6_write_142 : decode cX6_write 142 = .ok (.getfield 305, 3) := by decide +kernel
theorem dX6_write_145 : decode cX6_write 145 = .ok (.ireturn, 1) := by decide +kernel
theorem dX6_text_0 : decode cX6_text 0 = .ok (.aload_n 0, 1) := by decide +kernel
theorem dX6_text_1 : decode cX6_text 1 = .ok (.iload_n 1, 1) := by decide +kernel
theorem dX6_text_2 : decode cX6_text 2 = .ok (.i2l, 1) := by decide +kernel
theorem dX6_text_3 : decode cX6_text 3 = .ok (.lconst 0, 1) := by decide +kernel
theorem dX6_text_4 : decode cX6_text 4 = .ok (.aload_n 0, 1) := by decide +kernel
theorem dX6_text_5 : decode cX6_text 5 = .ok (.getfield 305, 3) := by decide +kernel
theorem dX6_text_8 : decode cX6_text 8 = .ok (.iconst 1, 1) := by decide +kernel
theorem dX6_text_9 : decode cX6_text 9 = .ok (.isub, 1) := by decide +kernel
theorem dX6_text_10 : decode cX6_text 10 = .ok (.i2l, 1) := by decide +kernel
theorem dX6_text_11 : decode cX6_text 11 = .ok (.invokestatic 67, 3) := by decide +kernel
theorem dX6_text_14 : decode cX6_text 14 = .ok (.ifCond .eq 7, 3) := by decide +kernel
theorem dX6_text_17 : decode cX6_text 17 = .ok (.iconst 0, 1) := by decide +kernel
theorem dX6_text_18 : decode cX6_text 18 = .ok (.goto 4, 3) := by decide +kernel
theorem dX6_text_21 : decode cX6_text 21 = .ok (.iconst 1, 1) := by decide +kernel
theorem dX6_text_22 : decode cX6_text 22 = .ok (.putfield 57, 3) := by decide +kernel
theorem dX6_text_25 : decode cX6_text 25 = .ok (.aload_n 0, 1) := by decide +kernel
theorem dX6_text_26 : decode cX6_text 26 = .ok (.getfield 57, 3) := by decide +kernel
theorem dX6_text_29 : decode cX6_text 29 = .ok (.ifCond .ne 13, 3) := by decide +kernel
theorem dX6_text_32 : decode cX6_text 32 = .ok (.aload_n 0, 1) := by decide +kernel
theorem dX6_text_33 : decode cX6_text 33 = .ok (.getfield 48, 3) := by decide +kernel
theorem dX6_text_36 : decode cX6_text 36 = .ok (.iload_n 1, 1) := by decide +kernel
theorem dX6_text_37 : decode cX6_text 37 = .ok (.iaload, 1) := by decide +kernel
theorem dX6_text_38 : decode cX6_text 38 = .ok (.i2c, 1) := by decide +kernel
theorem dX6_text_39 : decode cX6_text 39 = .ok (.goto 4, 3) := by decide +kernel
theorem dX6_text_42 : decode cX6_text 42 = .ok (.iconst 0, 1) := by decide +kernel
theorem dX6_text_43 : decode cX6_text 43 = .ok (.ireturn, 1) := by decide +kernel
theorem dX6_remembers_0 : decode cX6_remembers 0 = .ok (.aload_n 0, 1) := by decide +kernel
theorem dX6_remembers_1 : decode cX6_remembers 1 = .ok (.getfield 312, 3) := by decide +kernel
theorem dX6_remembers_4 : decode cX6_remembers 4 = .ok (.bipush 10, 2) := by decide +kernel
theorem dX6_remembers_6 : decode cX6_remembers 6 = .ok (.if_icmp .ne 44, 3) := by decide +kernel
theorem dX6_remembers_9 : decode cX6_remembers 9 = .ok (.iconst 0, 1) := by decide +kernel
theorem dX6_remembers_10 : decode cX6_remembers 10 = .ok (.istore_n 1, 1) := by decide +kernel
theorem dX6_remembers_11 : decode cX6_remembers 11 = .ok (.iload_n 1, 1) := by decide +kernel
theorem dX6_remembers_12 : decode cX6_remembers 12 = .ok (.sipush 11169, 3) := by decide +kernel
theorem dX6_remembers_15 : decode cX6_remembers 15 = .ok (.if_icmp .ge 25, 3) := by decide +kernel
theorem dX6_remembers_18 : decode cX6_remembers 18 = .ok (.aload_n 0, 1) := by decide +kernel
theorem dX6_remembers_19 : decode cX6_remembers 19 = .ok (.getfield 51, 3) := by decide +kernel
theorem dX6_remembers_22 : decode cX6_remembers 22 = .ok (.iload_n 1, 1) := by decide +kernel
theorem dX6_remembers_23 : decode cX6_remembers 23 = .ok (.aload_n 0, 1) := by decide +kernel
theorem dX6_remembers_24 : decode cX6_remembers 24 = .ok (.getfield 51, 3) := by decide +kernel
theorem dX6_remembers_27 : decode cX6_remembers 27 = .ok (.iload_n 1, 1) := by decide +kernel
theorem dX6_remembers_28 : decode cX6_remembers 28 = .ok (.sipush 1241, 3) := by decide +kernel
theorem dX6_remembers_31 : decode cX6_remembers 31 = .ok (.iadd, 1) := by decide +kernel
theorem dX6_remembers_32 : decode cX6_remembers 32 = .ok (.iaload, 1) := by decide +kernel
theorem dX6_remembers_33 : decode cX6_remembers 33 = .ok (.iastore, 1) := by decide +kernel
theorem dX6_remembers_34 : decode cX6_remembers 34 = .ok (.iinc 1 1, 3) := by decide +kernel
theorem dX6_remembers_37 : decode cX6_remembers 37 = .ok (.goto (-26), 3) := by decide +kernel
theorem dX6_remembers_40 : decode cX6_remembers 40 = .ok (.aload_n 0, 1) := by decide +kernel
theorem dX6_remembers_41 : decode cX6_remembers 41 = .ok (.dup, 1) := by decide +kernel
theorem dX6_remembers_42 : decode cX6_remembers 42 = .ok (.getfield 312, 3) := by decide +kernel
theorem dX6_remembers_45 : decode cX6_remembers 45 = .ok (.iconst 1, 1) := by decide +kernel
theorem dX6_remembers_46 : decode cX6_remembers 46 = .ok (.isub, 1) := by decide +kernel
theorem dX6_remembers_47 : decode cX6_remembers 47 = .ok (.putfield 312, 3) := by decide +kernel
theorem dX6_remembers_50 : decode cX6_remembers 50 = .ok (.iconst 0, 1) := by decide +kernel
theorem dX6_remembers_51 : decode cX6_remembers 51 = .ok (.istore_n 1, 1) := by decide +kernel
theorem dX6_remembers_52 : decode cX6_remembers 52 = .ok (.iload_n 1, 1) := by decide +kernel
theorem dX6_remembers_53 : decode cX6_remembers 53 = .ok (.sipush 1241, 3) := by decide +kernel
theorem dX6_remembers_56 : decode cX6_remembers 56 = .ok (.if_icmp .ge 30, 3) := by decide +kernel
theorem dX6_remembers_59 : decode cX6_remembers 59 = .ok (.aload_n 0, 1) := by decide +kernel
theorem dX6_remembers_60 : decode cX6_remembers 60 = .ok (.getfield 51, 3) := by decide +kernel
theorem dX6_remembers_63 : decode cX6_remembers 63 = .ok (.sipush 1241, 3) := by decide +kernel
theorem dX6_remembers_66 : decode cX6_remembers 66 = .ok (.aload_n 0, 1) := by decide +kernel
theorem dX6_remembers_67 : decode cX6_remembers 67 = .ok (.getfield 312, 3) := by decide +kernel
theorem dX6_remembers_70 : decode cX6_remembers 70 = .ok (.imul, 1) := by decide +kernel
theorem dX6_remembers_71 : decode cX6_remembers 71 = .ok (.iload_n 1, 1) := by decide +kernel
theorem dX6_remembers_72 : decode cX6_remembers 72 = .ok (.iadd, 1) := by decide +kernel
theorem dX6_remembers_73 : decode cX6_remembers 73 = .ok (.aload_n 0, 1) := by decide +kernel
theorem dX6_remembers_74 : decode cX6_remembers 74 = .ok (.getfield 7, 3) := by decide +kernel
theorem dX6_remembers_77 : decode cX6_remembers 77 = .ok (.iload_n 1, 1) := by decide +kernel
theorem dX6_remembers_78 : decode cX6_remembers 78 = .ok (.iaload, 1) := by decide +kernel
theorem dX6_remembers_79 : decode cX6_remembers 79 = .ok (.iastore, 1) := by decide +kernel
theorem dX6_remembers_80 : decode cX6_remembers 80 = .ok (.iinc 1 1, 3) := by decide +kernel
theorem dX6_remembers_83 : decode cX6_remembers 83 = .ok (.goto (-31), 3) := by decide +kernel
theorem dX6_remembers_86 : decode cX6_remembers 86 = .ok (.aload_n 0, 1) := by decide +kernel
theorem dX6_remembers_87 : decode cX6_remembers 87 = .ok (.dup, 1) := by decide +kernel
theorem dX6_remembers_88 : decode cX6_remembers 88 = .ok (.getfield 312, 3) := by decide +kernel
theorem dX6_remembers_91 : decode cX6_remembers 91 = .ok (.iconst 1, 1) := by decide +kernel
theorem dX6_remembers_92 : decode cX6_remembers 92 = .ok (.iadd, 1) := by decide +kernel
theorem dX6_remembers_93 : decode cX6_remembers 93 = .ok (.putfield 312, 3) := by decide +kernel
theorem dX6_remembers_96 : decode cX6_remembers 96 = .ok (.return_, 1) := by decide +kernel
theorem dX6_undo_0 : decode cX6_undo 0 = .ok (.aload_n 0, 1) := by decide +kernel
theorem dX6_undo_1 : decode cX6_undo 1 = .ok (.getfield 312, 3) := by decide +kernel
theorem dX6_undo_4 : decode cX6_undo 4 = .ok (.ifCond .ne 9, 3) := by decide +kernel
theorem dX6_undo_7 : decode cX6_undo 7 = .ok (.aload_n 0, 1) := by decide +kernel
theorem dX6_undo_8 : decode cX6_undo 8 = .ok (.iconst 1, 1) := by decide +kernel
theorem dX6_undo_9 : decode cX6_undo 9 = .ok (.invokevirtual 99, 3) := by decide +kernel
theorem dX6_undo_12 : decode cX6_undo 12 = .ok (.ireturn, 1) := by decide +kernel
theorem dX6_undo_13 : decode cX6_undo 13 = .ok (.aload_n 0, 1) := by decide +kernel
theorem dX6_undo_14 : decode cX6_undo 14 = .ok (.iconst 0, 1) := by decide +kernel
theorem dX6_undo_15 : decode cX6_undo 15 = .ok (.putfield 57, 3) := by decide +kernel
theorem dX6_undo_18 : decode cX6_undo 18 = .ok (.aload_n 0, 1) := by decide +kernel
theorem dX6_undo_19 : decode cX6_undo 19 = .ok (.dup, 1) := by decide +kernel
theorem dX6_undo_20 : decode cX6_undo 20 = .ok (.getfield 312, 3) := by decide +kernel
theorem dX6_undo_23 : decode cX6_undo 23 = .ok (.iconst 1, 1) := by decide +kernel
theorem dX6_undo_24 : decode cX6_undo 24 = .ok (.isub, 1) := by decide +kernel
theorem dX6_undo_25 : decode cX6_undo 25 = .ok (.putfield 312, 3) := by decide +kernel
theorem dX6_undo_28 : decode cX6_undo 28 = .ok (.iconst 0, 1) := by decide +kernel
theorem dX6_undo_29 : decode cX6_undo 29 = .ok (.istore_n 1, 1) := by decide +kernel
theorem dX6_undo_30 : decode cX6_undo 30 = .ok (.iload_n 1, 1) := by decide +kernel
theorem dX6_undo_31 : decode cX6_undo 31 = .ok (.sipush 1241, 3) := by decide +kernel
theorem dX6_undo_34 : decode cX6_undo 34 = .ok (.if_icmp .ge 30, 3) := by decide +kernel
theorem dX6_undo_37 : decode cX6_undo 37 = .ok (.aload_n 0, 1) := by decide +kernel
theorem dX6_undo_38 : decode cX6_undo 38 = .ok (.getfield 7, 3) := by decide +kernel
theorem dX6_undo_41 : decode cX6_undo 41 = .ok (.iload_n 1, 1) := by decide +kernel
theorem dX6_undo_42 : decode cX6_undo 42 = .ok (.aload_n 0, 1) := by decide +kernel
theorem dX6_undo_43 : decode cX6_undo 43 = .ok (.getfield 51, 3) := by decide +kernel
theorem dX6_undo_46 : decode cX6_undo 46 = .ok (.sipush 1241, 3) := by decide +kernel
theorem dX6_undo_49 : decode cX6_undo 49 = .ok (.aload_n 0, 1) := by decide +kernel
theorem dX6_undo_50 : decode cX6_undo 50 = .ok (.getfield 312, 3) := by decide +kernel
theorem dX6_undo_53 : decode cX6_undo 53 = .ok (.imul, 1) := by decide +kernel
theorem dX6_undo_54 : decode cX6_undo 54 = .ok (.iload_n 1, 1) := by decide +kernel
theorem dX6_undo_55 : decode cX6_undo 55 = .ok (.iadd, 1) := by decide +kernel
theorem dX6_undo_56 : decode cX6_undo 56 = .ok (.iaload, 1) := by decide +kernel
theorem dX6_undo_57 : decode cX6_undo 57 = .ok (.iastore, 1) := by decide +kernel
theorem dX6_undo_58 : decode cX6_undo 58 = .ok (.iinc 1 1, 3) := by decide +kernel
theorem dX6_undo_61 : decode cX6_undo 61 = .ok (.goto (-31), 3) := by decide +kernel
theorem dX6_undo_64 : decode cX6_undo 64 = .ok (.aload_n 0, 1) := by decide +kernel
theorem dX6_undo_65 : decode cX6_undo 65 = .ok (.getfield 312, 3) := by decide +kernel
theorem dX6_undo_68 : decode cX6_undo 68 = .ok (.ireturn, 1) := by decide +kernel
theorem dX6_there_0 : decode cX6_there 0 = .ok (.aload_n 0, 1) := by decide +kernel
theorem dX6_there_1 : decode cX6_there 1 = .ok (.getfield 7, 3) := by decide +kernel
theorem dX6_there_4 : decode cX6_there 4 = .ok (.iconst 0, 1) := by decide +kernel
theorem dX6_there_5 : decode cX6_there 5 = .ok (.iaload, 1) := by decide +kernel
theorem dX6_there_6 : decode cX6_there 6 = .ok (.aload_n 0, 1) := by decide +kernel
theorem dX6_there_7 : decode cX6_there 7 = .ok (.getfield 7, 3) := by decide +kernel
theorem dX6_there_10 : decode cX6_there 10 = .ok (.sipush 310, 3) := by decide +kernel
theorem dX6_there_13 : decode cX6_there 13 = .ok (.iaload, 1) := by decide +kernel
theorem dX6_there_14 : decode cX6_there 14 = .ok (.iadd, 1) := by decide +kernel
theorem dX6_there_15 : decode cX6_there 15 = .ok (.aload_n 0, 1) := by decide +kernel
theorem dX6_there_16 : decode cX6_there 16 = .ok (.getfield 7, 3) := by decide +kernel
theorem dX6_there_19 : decode cX6_there 19 = .ok (.sipush 620, 3) := by decide +kernel
theorem dX6_there_22 : decode cX6_there 22 = .ok (.iaload, 1) := by decide +kernel
theorem dX6_there_23 : decode cX6_there 23 = .ok (.iadd, 1) := by decide +kernel
theorem dX6_there_24 : decode cX6_there 24 = .ok (.aload_n 0, 1) := by decide +kernel
theorem dX6_there_25 : decode cX6_there 25 = .ok (.getfield 7, 3) := by decide +kernel
theorem dX6_there_28 : decode cX6_there 28 = .ok (.sipush 930, 3) := by decide +kernel
theorem dX6_there_31 : decode cX6_there 31 = .ok (.iaload, 1) := by decide +kernel
theorem dX6_there_32 : decode cX6_there 32 = .ok (.iadd, 1) := by decide +kernel
theorem dX6_there_33 : decode cX6_there 33 = .ok (.ireturn, 1) := by decide +kernel
theorem dX6_save_0 : decode cX6_save 0 = .ok (.aload_n 0, 1) := by decide +kernel
theorem dX6_save_1 : decode cX6_save 1 = .ok (.iconst 0, 1) := by decide +kernel
theorem dX6_save_2 : decode cX6_save 2 = .ok (.putfield 57, 3) := by decide +kernel
theorem dX6_save_5 : decode cX6_save 5 = .ok (.aload_n 0, 1) := by decide +kernel
theorem dX6_save_6 : decode cX6_save 6 = .ok (.iconst 1, 1) := by decide +kernel
theorem dX6_save_7 : decode cX6_save 7 = .ok (.putfield 315, 3) := by decide +kernel
theorem dX6_save_10 : decode cX6_save 10 = .ok (.iconst 0, 1) := by decide +kernel
theorem dX6_save_11 : decode cX6_save 11 = .ok (.istore_n 1, 1) := by decide +kernel
theorem dX6_save_12 : decode cX6_save 12 = .ok (.iload_n 1, 1) := by decide +kernel
theorem dX6_save_13 : decode cX6_save 13 = .ok (.sipush 1241, 3) := by decide +kernel
theorem dX6_save_16 : decode cX6_save 16 = .ok (.if_icmp .ge 21, 3) := by decide +kernel
theorem dX6_save_19 : decode cX6_save 19 = .ok (.aload_n 0, 1) := by decide +kernel
theorem dX6_save_20 : decode cX6_save 20 = .ok (.getfield 54, 3) := by decide +kernel
theorem dX6_save_23 : decode cX6_save 23 = .ok (.iload_n 1, 1) := by decide +kernel
theorem dX6_save_24 : decode cX6_save 24 = .ok (.aload_n 0, 1) := by decide +kernel
theorem dX6_save_25 : decode cX6_save 25 = .ok (.getfield 7, 3) := by decide +kernel
theorem dX6_save_28 : decode cX6_save 28 = .ok (.iload_n 1, 1) := by decide +kernel
theorem dX6_save_29 : decode cX6_save 29 = .ok (.iaload, 1) := by decide +kernel
theorem dX6_save_30 : decode cX6_save 30 = .ok (.iastore, 1) := by decide +kernel
theorem dX6_save_31 : decode cX6_save 31 = .ok (.iinc 1 1, 3) := by decide +kernel
theorem dX6_save_34 : decode cX6_save 34 = .ok (.goto (-22), 3) := by decide +kernel
theorem dX6_save_37 : decode cX6_save 37 = .ok (.aload_n 0, 1) := by decide +kernel
theorem dX6_save_38 : decode cX6_save 38 = .ok (.invokevirtual 318, 3) := by decide +kernel
theorem dX6_save_41 : decode cX6_save 41 = .ok (.ireturn, 1) := by decide +kernel
theorem dX6_restore_0 : decode cX6_restore 0 = .ok (.aload_n 0, 1) := by decide +kernel
theorem dX6_restore_1 : decode cX6_restore 1 = .ok (.getfield 315, 3) := by decide +kernel
theorem dX6_restore_4 : decode cX6_restore 4 = .ok (.ifCond .ne 9, 3) := by decide +kernel
theorem dX6_restore_7 : decode cX6_restore 7 = .ok (.aload_n 0, 1) := by decide +kernel
theorem dX6_restore_8 : decode cX6_restore 8 = .ok (.iconst 1, 1) := by decide +kernel
theorem dX6_restore_9 : decode cX6_restore 9 = .ok (.invokevirtual 99, 3) := by decide +kernel
theorem dX6_restore_12 : decode cX6_restore 12 = .ok (.ireturn, 1) := by decide +kernel
theorem dX6_restore_13 : decode cX6_restore 13 = .ok (.aload_n 0, 1) := by decide +kernel
theorem dX6_restore_14 : decode cX6_restore 14 = .ok (.iconst 0, 1) := by decide +kernel
theorem dX6_restore_15 : decode cX6_restore 15 = .ok (.putfield 57, 3) := by decide +kernel
theorem dX6_restore_18 : decode cX6_restore 18 = .ok (.iconst 0, 1) := by decide +kernel
theorem dX6_restore_19 : decode cX6_restore 19 = .ok (.istore_n 1, 1) := by decide +kernel
theorem dX6_restore_20 : decode cX6_restore 20 = .ok (.iload_n 1, 1) := by decide +kernel
theorem dX6_restore_21 : decode cX6_restore 21 = .ok (.sipush 1241, 3) := by decide +kernel
theorem dX6_restore_24 : decode cX6_restore 24 = .ok (.if_icmp .ge 21, 3) := by decide +kernel
theorem dX6_restore_27 : decode cX6_restore 27 = .ok (.aload_n 0, 1) := by decide +kernel
theorem dX6_restore_28 : decode cX6_restore 28 = .ok (.getfield 7, 3) := by decide +kernel
theorem dX6_restore_31 : decode cX6_restore 31 = .ok (.iload_n 1, 1) := by decide +kernel
theorem dX6_restore_32 : decode cX6_restore 32 = .ok (.aload_n 0, 1) := by decide +kernel
theorem dX6_restore_33 : decode cX6_restore 33 = .ok (.getfield 54, 3) := by decide +kernel
theorem dX6_restore_36 : decode cX6_restore 36 = .ok (.iload_n 1, 1) := by decide +kernel
theorem dX6_restore_37 : decode cX6_restore 37 = .ok (.iaload, 1) := by decide +kernel
theorem dX6_restore_38 : decode cX6_restore 38 = .ok (.iastore, 1) := by decide +kernel
theorem dX6_restore_39 : decode cX6_restore 39 = .ok (.iinc 1 1, 3) := by decide +kernel
theorem dX6_restore_42 : decode cX6_restore 42 = .ok (.goto (-22), 3) := by decide +kernel
theorem dX6_restore_45 : decode cX6_restore 45 = .ok (.aload_n 0, 1) := by decide +kernel
theorem dX6_restore_46 : decode cX6_restore 46 = .ok (.iconst 0, 1) := by decide +kernel
theorem dX6_restore_47 : decode cX6_restore 47 = .ok (.putfield 312, 3) := by decide +kernel
theorem dX6_restore_50 : decode cX6_restore 50 = .ok (.aload_n 0, 1) := by decide +kernel
theorem dX6_restore_51 : decode cX6_restore 51 = .ok (.invokevirtual 318, 3) := by decide +kernel
theorem dX6_restore_54 : decode cX6_restore 54 = .ok (.ireturn, 1) := by decide +kernel
