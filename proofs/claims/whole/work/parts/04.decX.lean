theorem dX0_init_0 : decode cX0_init 0 = .ok (.aload_n 0, 1) := by decide +kernel
theorem dX0_init_1 : decode cX0_init 1 = .ok (.invokespecial 3, 3) := by decide +kernel
theorem dX0_init_4 : decode cX0_init 4 = .ok (.aload_n 0, 1) := by decide +kernel
theorem dX0_init_5 : decode cX0_init 5 = .ok (.bipush 10, 2) := by decide +kernel
theorem dX0_init_7 : decode cX0_init 7 = .ok (.anewarray 9, 3) := by decide +kernel
theorem dX0_init_10 : decode cX0_init 10 = .ok (.putfield 11, 3) := by decide +kernel
theorem dX0_init_13 : decode cX0_init 13 = .ok (.aload_n 0, 1) := by decide +kernel
theorem dX0_init_14 : decode cX0_init 14 = .ok (.bipush 10, 2) := by decide +kernel
theorem dX0_init_16 : decode cX0_init 16 = .ok (.newarray .int, 2) := by decide +kernel
theorem dX0_init_18 : decode cX0_init 18 = .ok (.putfield 17, 3) := by decide +kernel
theorem dX0_init_21 : decode cX0_init 21 = .ok (.aload_n 0, 1) := by decide +kernel
theorem dX0_init_22 : decode cX0_init 22 = .ok (.bipush 10, 2) := by decide +kernel
theorem dX0_init_24 : decode cX0_init 24 = .ok (.newarray .int, 2) := by decide +kernel
theorem dX0_init_26 : decode cX0_init 26 = .ok (.putfield 21, 3) := by decide +kernel
theorem dX0_init_29 : decode cX0_init 29 = .ok (.iconst 0, 1) := by decide +kernel
theorem dX0_init_30 : decode cX0_init 30 = .ok (.istore_n 1, 1) := by decide +kernel
theorem dX0_init_31 : decode cX0_init 31 = .ok (.iload_n 1, 1) := by decide +kernel
theorem dX0_init_32 : decode cX0_init 32 = .ok (.bipush 10, 2) := by decide +kernel
theorem dX0_init_34 : decode cX0_init 34 = .ok (.if_icmp .ge 22, 3) := by decide +kernel
theorem dX0_init_37 : decode cX0_init 37 = .ok (.aload_n 0, 1) := by decide +kernel
theorem dX0_init_38 : decode cX0_init 38 = .ok (.getfield 11, 3) := by decide +kernel
theorem dX0_init_41 : decode cX0_init 41 = .ok (.iload_n 1, 1) := by decide +kernel
theorem dX0_init_42 : decode cX0_init 42 = .ok (.new 9, 3) := by decide +kernel
theorem dX0_init_45 : decode cX0_init 45 = .ok (.dup, 1) := by decide +kernel
theorem dX0_init_46 : decode cX0_init 46 = .ok (.invokespecial 24, 3) := by decide +kernel
theorem dX0_init_49 : decode cX0_init 49 = .ok (.aastore, 1) := by decide +kernel
theorem dX0_init_50 : decode cX0_init 50 = .ok (.iinc 1 1, 3) := by decide +kernel
theorem dX0_init_53 : decode cX0_init 53 = .ok (.goto (-22), 3) := by decide +kernel
theorem dX0_init_56 : decode cX0_init 56 = .ok (.return_, 1) := by decide +kernel
theorem dX0_count_0 : decode cX0_count 0 = .ok (.aload_n 0, 1) := by decide +kernel
theorem dX0_count_1 : decode cX0_count 1 = .ok (.getfield 25, 3) := by decide +kernel
theorem dX0_count_4 : decode cX0_count 4 = .ok (.ireturn, 1) := by decide +kernel
theorem dX0_forget_0 : decode cX0_forget 0 = .ok (.aload_n 0, 1) := by decide +kernel
theorem dX0_forget_1 : decode cX0_forget 1 = .ok (.iconst 0, 1) := by decide +kernel
theorem dX0_forget_2 : decode cX0_forget 2 = .ok (.putfield 25, 3) := by decide +kernel
theorem dX0_forget_5 : decode cX0_forget 5 = .ok (.return_, 1) := by decide +kernel
theorem dX0_remember_0 : decode cX0_remember 0 = .ok (.aload_n 0, 1) := by decide +kernel
theorem dX0_remember_1 : decode cX0_remember 1 = .ok (.invokevirtual 29, 3) := by decide +kernel
theorem dX0_remember_4 : decode cX0_remember 4 = .ok (.istore 4, 2) := by decide +kernel
theorem dX0_remember_6 : decode cX0_remember 6 = .ok (.aload_n 0, 1) := by decide +kernel
theorem dX0_remember_7 : decode cX0_remember 7 = .ok (.getfield 11, 3) := by decide +kernel
theorem dX0_remember_10 : decode cX0_remember 10 = .ok (.iload 4, 2) := by decide +kernel
theorem dX0_remember_12 : decode cX0_remember 12 = .ok (.aaload, 1) := by decide +kernel
theorem dX0_remember_13 : decode cX0_remember 13 = .ok (.aload_n 2, 1) := by decide +kernel
theorem dX0_remember_14 : decode cX0_remember 14 = .ok (.invokevirtual 33, 3) := by decide +kernel
theorem dX0_remember_17 : decode cX0_remember 17 = .ok (.aload_n 0, 1) := by decide +kernel
theorem dX0_remember_18 : decode cX0_remember 18 = .ok (.getfield 17, 3) := by decide +kernel
theorem dX0_remember_21 : decode cX0_remember 21 = .ok (.iload 4, 2) := by decide +kernel
theorem dX0_remember_23 : decode cX0_remember 23 = .ok (.iload_n 1, 1) := by decide +kernel
theorem dX0_remember_24 : decode cX0_remember 24 = .ok (.iastore, 1) := by decide +kernel
theorem dX0_remember_25 : decode cX0_remember 25 = .ok (.aload_n 0, 1) := by decide +kernel
theorem dX0_remember_26 : decode cX0_remember 26 = .ok (.getfield 21, 3) := by decide +kernel
theorem dX0_remember_29 : decode cX0_remember 29 = .ok (.iload 4, 2) := by decide +kernel
theorem dX0_remember_31 : decode cX0_remember 31 = .ok (.iload_n 3, 1) := by decide +kernel
theorem dX0_remember_32 : decode cX0_remember 32 = .ok (.iastore, 1) := by decide +kernel
theorem dX0_remember_33 : decode cX0_remember 33 = .ok (.aload_n 0, 1) := by decide +kernel
theorem dX0_remember_34 : decode cX0_remember 34 = .ok (.iload 4, 2) := by decide +kernel
theorem dX0_remember_36 : decode cX0_remember 36 = .ok (.iconst 1, 1) := by decide +kernel
theorem dX0_remember_37 : decode cX0_remember 37 = .ok (.iadd, 1) := by decide +kernel
theorem dX0_remember_38 : decode cX0_remember 38 = .ok (.bipush 10, 2) := by decide +kernel
theorem dX0_remember_40 : decode cX0_remember 40 = .ok (.irem, 1) := by decide +kernel
theorem dX0_remember_41 : decode cX0_remember 41 = .ok (.putfield 37, 3) := by decide +kernel
theorem dX0_remember_44 : decode cX0_remember 44 = .ok (.aload_n 0, 1) := by decide +kernel
theorem dX0_remember_45 : decode cX0_remember 45 = .ok (.aload_n 0, 1) := by decide +kernel
theorem dX0_remember_46 : decode cX0_remember 46 = .ok (.getfield 25, 3) := by decide +kernel
theorem dX0_remember_49 : decode cX0_remember 49 = .ok (.iconst 1, 1) := by decide +kernel
theorem dX0_remember_50 : decode cX0_remember 50 = .ok (.iadd, 1) := by decide +kernel
theorem dX0_remember_51 : decode cX0_remember 51 = .ok (.bipush 10, 2) := by decide +kernel
theorem dX0_remember_53 : decode cX0_remember 53 = .ok (.invokestatic 40, 3) := by decide +kernel
theorem dX0_remember_56 : decode cX0_remember 56 = .ok (.putfield 25, 3) := by decide +kernel
theorem dX0_remember_59 : decode cX0_remember 59 = .ok (.return_, 1) := by decide +kernel
theorem dX0_stepBack_0 : decode cX0_stepBack 0 = .ok (.aload_n 0, 1) := by decide +kernel
theorem dX0_stepBack_1 : decode cX0_stepBack 1 = .ok (.aload_n 0, 1) := by decide +kernel
theorem dX0_stepBack_2 : decode cX0_stepBack 2 = .ok (.invokevirtual 29, 3) := by decide +kernel
theorem dX0_stepBack_5 : decode cX0_stepBack 5 = .ok (.bipush 10, 2) := by decide +kernel
theorem dX0_stepBack_7 : decode cX0_stepBack 7 = .ok (.iadd, 1) := by decide +kernel
theorem dX0_stepBack_8 : decode cX0_stepBack 8 = .ok (.iconst 1, 1) := by decide +kernel
theorem dX0_stepBack_9 : decode cX0_stepBack 9 = .ok (.isub, 1) := by decide +kernel
theorem dX0_stepBack_10 : decode cX0_stepBack 10 = .ok (.bipush 10, 2) := by decide +kernel
theorem dX0_stepBack_12 : decode cX0_stepBack 12 = .ok (.irem, 1) := by decide +kernel
theorem dX0_stepBack_13 : decode cX0_stepBack 13 = .ok (.putfield 37, 3) := by decide +kernel
theorem dX0_stepBack_16 : decode cX0_stepBack 16 = .ok (.aload_n 0, 1) := by decide +kernel
theorem dX0_stepBack_17 : decode cX0_stepBack 17 = .ok (.aload_n 0, 1) := by decide +kernel
theorem dX0_stepBack_18 : decode cX0_stepBack 18 = .ok (.getfield 25, 3) := by decide +kernel
theorem dX0_stepBack_21 : decode cX0_stepBack 21 = .ok (.iconst 1, 1) := by decide +kernel
theorem dX0_stepBack_22 : decode cX0_stepBack 22 = .ok (.isub, 1) := by decide +kernel
theorem dX0_stepBack_23 : decode cX0_stepBack 23 = .ok (.iconst 0, 1) := by decide +kernel
theorem dX0_stepBack_24 : decode cX0_stepBack 24 = .ok (.invokestatic 46, 3) := by decide +kernel
theorem dX0_stepBack_27 : decode cX0_stepBack 27 = .ok (.putfield 25, 3) := by decide +kernel
theorem dX0_stepBack_30 : decode cX0_stepBack 30 = .ok (.return_, 1) := by decide +kernel
theorem dX0_slot_0 : decode cX0_slot 0 = .ok (.aload_n 0, 1) := by decide +kernel
theorem dX0_slot_1 : decode cX0_slot 1 = .ok (.getfield 17, 3) := by decide +kernel
theorem dX0_slot_4 : decode cX0_slot 4 = .ok (.aload_n 0, 1) := by decide +kernel
theorem dX0_slot_5 : decode cX0_slot 5 = .ok (.invokevirtual 29, 3) := by decide +kernel
theorem dX0_slot_8 : decode cX0_slot 8 = .ok (.iaload, 1) := by decide +kernel
theorem dX0_slot_9 : decode cX0_slot 9 = .ok (.ireturn, 1) := by decide +kernel
theorem dX0_held_0 : decode cX0_held 0 = .ok (.aload_n 0, 1) := by decide +kernel
theorem dX0_held_1 : decode cX0_held 1 = .ok (.getfield 11, 3) := by decide +kernel
theorem dX0_held_4 : decode cX0_held 4 = .ok (.aload_n 0, 1) := by decide +kernel
theorem dX0_held_5 : decode cX0_held 5 = .ok (.invokevirtual 29, 3) := by decide +kernel
theorem dX0_held_8 : decode cX0_held 8 = .ok (.aaload, 1) := by decide +kernel
theorem dX0_held_9 : decode cX0_held 9 = .ok (.areturn, 1) := by decide +kernel
theorem dX0_next_0 : decode cX0_next 0 = .ok (.aload_n 0, 1) := by decide +kernel
theorem dX0_next_1 : decode cX0_next 1 = .ok (.getfield 21, 3) := by decide +kernel
theorem dX0_next_4 : decode cX0_next 4 = .ok (.aload_n 0, 1) := by decide +kernel
theorem dX0_next_5 : decode cX0_next 5 = .ok (.invokevirtual 29, 3) := by decide +kernel
theorem dX0_next_8 : decode cX0_next 8 = .ok (.iaload, 1) := by decide +kernel
theorem dX0_next_9 : decode cX0_next 9 = .ok (.ireturn, 1) := by decide +kernel
theorem dX0_topIndex_0 : decode cX0_topIndex 0 = .ok (.aload_n 0, 1) := by decide +kernel
theorem dX0_topIndex_1 : decode cX0_topIndex 1 = .ok (.getfield 37, 3) := by decide +kernel
theorem dX0_topIndex_4 : decode cX0_topIndex 4 = .ok (.ifCond .lt 12, 3) := by decide +kernel
theorem dX0_topIndex_7 : decode cX0_topIndex 7 = .ok (.aload_n 0, 1) := by decide +kernel
theorem dX0_topIndex_8 : decode cX0_topIndex 8 = .ok (.getfield 37, 3) := by decide +kernel
theorem dX0_topIndex_11 : decode cX0_topIndex 11 = .ok (.bipush 10, 2) := by decide +kernel
theorem dX0_topIndex_13 : decode cX0_topIndex 13 = .ok (.if_icmp .lt 7, 3) := by decide +kernel
theorem dX0_topIndex_16 : decode cX0_topIndex 16 = .ok (.iconst 0, 1) := by decide +kernel
theorem dX0_topIndex_17 : decode cX0_topIndex 17 = .ok (.goto 7, 3) := by decide +kernel
theorem dX0_topIndex_20 : decode cX0_topIndex 20 = .ok (.aload_n 0, 1) := by decide +kernel
theorem dX0_topIndex_21 : decode cX0_topIndex 21 = .ok (.getfield 37, 3) := by decide +kernel
theorem dX0_topIndex_24 : decode cX0_topIndex 24 = .ok (.ireturn, 1) := by decide +kernel
theorem dX1_init_0 : decode cX1_init 0 = .ok (.aload_n 0, 1) := by decide +kernel
theorem dX1_init_1 : decode cX1_init 1 = .ok (.invokespecial 3, 3) := by decide +kernel
theorem dX1_init_4 : decode cX1_init 4 = .ok (.aload_n 0, 1) := by decide +kernel
theorem dX1_init_5 : decode cX1_init 5 = .ok (.iload_n 1, 1) := by decide +kernel
theorem dX1_init_6 : decode cX1_init 6 = .ok (.iconst 0, 1) := by decide +kernel
theorem dX1_init_7 : decode cX1_init 7 = .ok (.invokestatic 9, 3) := by decide +kernel
theorem dX1_init_10 : decode cX1_init 10 = .ok (.newarray .char, 2) := by decide +kernel
theorem dX1_init_12 : decode cX1_init 12 = .ok (.putfield 15, 3) := by decide +kernel
theorem dX1_init_15 : decode cX1_init 15 = .ok (.return_, 1) := by decide +kernel
theorem dX1_length_0 : decode cX1_length 0 = .ok (.aload_n 0, 1) := by decide +kernel
theorem dX1_length_1 : decode cX1_length 1 = .ok (.getfield 21, 3) := by decide +kernel
theorem dX1_length_4 : decode cX1_length 4 = .ok (.ireturn, 1) := by decide +kernel
theorem dX1_isFull_0 : decode cX1_isFull 0 = .ok (.aload_n 0, 1) := by decide +kernel
theorem dX1_isFull_1 : decode cX1_isFull 1 = .ok (.getfield 21, 3) := by decide +kernel
theorem dX1_isFull_4 : decode cX1_isFull 4 = .ok (.aload_n 0, 1) := by decide +kernel
theorem dX1_isFull_5 : decode cX1_isFull 5 = .ok (.getfield 15, 3) := by decide +kernel
theorem dX1_isFull_8 : decode cX1_isFull 8 = .ok (.arraylength, 1) := by decide +kernel
theorem dX1_isFull_9 : decode cX1_isFull 9 = .ok (.if_icmp .lt 7, 3) := by decide +kernel
theorem dX1_isFull_12 : decode cX1_isFull 12 = .ok (.iconst 1, 1) := by decide +kernel
theorem dX1_isFull_13 : decode cX1_isFull 13 = .ok (.goto 4, 3) := by decide +kernel
theorem dX1_isFull_16 : decode cX1_isFull 16 = .ok (.iconst 0, 1) := by decide +kernel
theorem dX1_isFull_17 : decode cX1_isFull 17 = .ok (.ireturn, 1) := by decide +kernel
theorem dX1_clear_0 : decode cX1_clear 0 = .ok (.aload_n 0, 1) := by decide +kernel
theorem dX1_clear_1 : decode cX1_clear 1 = .ok (.iconst 0, 1) := by decide +kernel
theorem dX1_clear_2 : decode cX1_clear 2 = .ok (.putfield 21, 3) := by decide +kernel
theorem dX1_clear_5 : decode cX1_clear 5 = .ok (.return_, 1) := by decide +kernel
theorem dX1_add_0 : decode cX1_add 0 = .ok (.aload_n 0, 1) := by decide +kernel
theorem dX1_add_1 : decode cX1_add 1 = .ok (.getfield 21, 3) := by decide +kernel
theorem dX1_add_4 : decode cX1_add 4 = .ok (.ifCond .lt 35, 3) := by decide +kernel
theorem dX1_add_7 : decode cX1_add 7 = .ok (.aload_n 0, 1) := by decide +kernel
theorem dX1_add_8 : decode cX1_add 8 = .ok (.getfield 21, 3) := by decide +kernel
theorem dX1_add_11 : decode cX1_add 11 = .ok (.aload_n 0, 1) := by decide +kernel
theorem dX1_add_12 : decode cX1_add 12 = .ok (.getfield 15, 3) := by decide +kernel
theorem dX1_add_15 : decode cX1_add 15 = .ok (.arraylength, 1) := by decide +kernel
theorem dX1_add_16 : decode cX1_add 16 = .ok (.if_icmp .ge 23, 3) := by decide +kernel
theorem dX1_add_19 : decode cX1_add 19 = .ok (.aload_n 0, 1) := by decide +kernel
theorem dX1_add_20 : decode cX1_add 20 = .ok (.getfield 15, 3) := by decide +kernel
theorem dX1_add_23 : decode cX1_add 23 = .ok (.aload_n 0, 1) := by decide +kernel
theorem dX1_add_24 : decode cX1_add 24 = .ok (.getfield 21, 3) := by decide +kernel
theorem dX1_add_27 : decode cX1_add 27 = .ok (.iload_n 1, 1) := by decide +kernel
theorem dX1_add_28 : decode cX1_add 28 = .ok (.castore, 1) := by decide +kernel
theorem dX1_add_29 : decode cX1_add 29 = .ok (.aload_n 0, 1) := by decide +kernel
theorem dX1_add_30 : decode cX1_add 30 = .ok (.dup, 1) := by decide +kernel
theorem dX1_add_31 : decode cX1_add 31 = .ok (.getfield 21, 3) := by decide +kernel
theorem dX1_add_34 : decode cX1_add 34 = .ok (.iconst 1, 1) := by decide +kernel
theorem dX1_add_35 : decode cX1_add 35 = .ok (.iadd, 1) := by decide +kernel
theorem dX1_add_36 : decode cX1_add 36 = .ok (.putfield 21, 3) := by decide +kernel
theorem dX1_add_39 : decode cX1_add 39 = .ok (.return_, 1) := by decide +kernel
theorem dX1_letterAt_0 : decode cX1_letterAt 0 = .ok (.iload_n 1, 1) := by decide +kernel
theorem dX1_letterAt_1 : decode cX1_letterAt 1 = .ok (.ifCond .lt 20, 3) := by decide +kernel
theorem dX1_letterAt_4 : decode cX1_letterAt 4 = .ok (.iload_n 1, 1) := by decide +kernel
theorem dX1_letterAt_5 : decode cX1_letterAt 5 = .ok (.aload_n 0, 1) := by decide +kernel
theorem dX1_letterAt_6 : decode cX1_letterAt 6 = .ok (.getfield 21, 3) := by decide +kernel
theorem dX1_letterAt_9 : decode cX1_letterAt 9 = .ok (.if_icmp .ge 12, 3) := by decide +kernel
theorem dX1_letterAt_12 : decode cX1_letterAt 12 = .ok (.iload_n 1, 1) := by decide +kernel
theorem dX1_letterAt_13 : decode cX1_letterAt 13 = .ok (.aload_n 0, 1) := by decide +kernel
theorem dX1_letterAt_14 : decode cX1_letterAt 14 = .ok (.getfield 15, 3) := by decide +kernel
theorem dX1_letterAt_17 : decode cX1_letterAt 17 = .ok (.arraylength, 1) := by decide +kernel
theorem dX1_letterAt_18 : decode cX1_letterAt 18 = .ok (.if_icmp .lt 7, 3) := by decide +kernel
theorem dX1_letterAt_21 : decode cX1_letterAt 21 = .ok (.iconst 0, 1) := by decide +kernel
theorem dX1_letterAt_22 : decode cX1_letterAt 22 = .ok (.goto 9, 3) := by decide +kernel
theorem dX1_letterAt_25 : decode cX1_letterAt 25 = .ok (.aload_n 0, 1) := by decide +kernel
theorem dX1_letterAt_26 : decode cX1_letterAt 26 = .ok (.getfield 15, 3) := by decide +kernel
theorem dX1_letterAt_29 : decode cX1_letterAt 29 = .ok (.iload_n 1, 1) := by decide +kernel
theorem dX1_letterAt_30 : decode cX1_letterAt 30 = .ok (.caload, 1) := by decide +kernel
theorem dX1_letterAt_31 : decode cX1_letterAt 31 = .ok (.ireturn, 1) := by decide +kernel
theorem dX1_addNumber_0 : decode cX1_addNumber 0 = .ok (.iload_n 1, 1) := by decide +kernel
theorem dX1_addNumber_1 : decode cX1_addNumber 1 = .ok (.i2l, 1) := by decide +kernel
theorem dX1_addNumber_2 : decode cX1_addNumber 2 = .ok (.lstore_n 2, 1) := by decide +kernel
theorem dX1_addNumber_3 : decode cX1_addNumber 3 = .ok (.lload_n 2, 1) := by decide +kernel
theorem dX1_addNumber_4 : decode cX1_addNumber 4 = .ok (.lconst 0, 1) := by decide +kernel
theorem dX1_addNumber_5 : decode cX1_addNumber 5 = .ok (.lcmp, 1) := by decide +kernel
theorem dX1_addNumber_6 : decode cX1_addNumber 6 = .ok (.ifCond .ge 12, 3) := by decide +kernel
theorem dX1_addNumber_9 : decode cX1_addNumber 9 = .ok (.aload_n 0, 1) := by decide +kernel
theorem dX1_addNumber_10 : decode cX1_addNumber 10 = .ok (.bipush 45, 2) := by decide +kernel
theorem dX1_addNumber_12 : decode cX1_addNumber 12 = .ok (.invokevirtual 25, 3) := by decide +kernel
theorem dX1_addNumber_15 : decode cX1_addNumber 15 = .ok (.lload_n 2, 1) := by decide +kernel
theorem dX1_addNumber_16 : decode cX1_addNumber 16 = .ok (.lneg, 1) := by decide +kernel
theorem dX1_addNumber_17 : decode cX1_addNumber 17 = .ok (.lstore_n 2, 1) := by decide +kernel
theorem dX1_addNumber_18 : decode cX1_addNumber 18 = .ok (.lconst 1, 1) := by decide +kernel
theorem dX1_addNumber_19 : decode cX1_addNumber 19 = .ok (.lstore 4, 2) := by decide +kernel
theorem dX1_addNumber_21 : decode cX1_addNumber 21 = .ok (.iconst 1, 1) := by decide +kernel
theorem dX1_addNumber_22 : decode cX1_addNumber 22 = .ok (.istore 6, 2) := by decide +kernel
theorem dX1_addNumber_24 : decode cX1_addNumber 24 = .ok (.iload 6, 2) := by decide +kernel
theorem dX1_addNumber_26 : decode cX1_addNumber 26 = .ok (.bipush 10, 2) := by decide +kernel
theorem dX1_addNumber_28 : decode cX1_addNumber 28 = .ok (.if_icmp .ge 28, 3) := by decide +kernel
theorem dX1_addNumber_31 : decode cX1_addNumber 31 = .ok (.lload_n 2, 1) := by decide +kernel
theorem dX1_addNumber_32 : decode cX1_addNumber 32 = .ok (.lload 4, 2) := by decide +kernel
theorem dX1_addNumber_34 : decode cX1_addNumber 34 = .ok (.ldc2_w 29, 3) := by decide +kernel
theorem dX1_addNumber_37 : decode cX1_addNumber 37 = .ok (.lmul, 1) := by decide +kernel
theorem dX1_addNumber_38 : decode cX1_addNumber 38 = .ok (.lcmp, 1) := by decide +kernel
theorem dX1_addNumber_39 : decode cX1_addNumber 39 = .ok (.ifCond .lt 17, 3) := by decide +kernel
theorem dX1_addNumber_42 : decode cX1_addNumber 42 = .ok (.lload 4, 2) := by decide +kernel
theorem dX1_addNumber_44 : decode cX1_addNumber 44 = .ok (.ldc2_w 29, 3) := by decide +kernel
theorem dX1_addNumber_47 : decode cX1_addNumber 47 = .ok (.lmul, 1) := by decide +kernel
theorem dX1_addNumber_48 : decode cX1_addNumber 48 = .ok (.lstore 4, 2) := by decide +kernel
theorem dX1_addNumber_50 : decode cX1_addNumber 50 = .ok (.iinc 6 1, 3) := by decide +kernel
theorem dX1_addNumber_53 : decode cX1_addNumber 53 = .ok (.goto (-29), 3) := by decide +kernel
theorem dX1_addNumber_56 : decode cX1_addNumber 56 = .ok (.lload 4, 2) := by decide +kernel
theorem dX1_addNumber_58 : decode cX1_addNumber 58 = .ok (.lconst 0, 1) := by decide +kernel
theorem dX1_addNumber_59 : decode cX1_addNumber 59 = .ok (.lcmp, 1) := by decide +kernel
theorem dX1_addNumber_60 : decode cX1_addNumber 60 = .ok (.ifCond .le 32, 3) := by decide +kernel
theorem dX1_addNumber_63 : decode cX1_addNumber 63 = .ok (.aload_n 0, 1) := by decide +kernel
theorem dX1_addNumber_64 : decode cX1_addNumber 64 = .ok (.ldc2_w 31, 3) := by decide +kernel
theorem dX1_addNumber_67 : decode cX1_addNumber 67 = .ok (.lload_n 2, 1) := by decide +kernel
theorem dX1_addNumber_68 : decode cX1_addNumber 68 = .ok (.lload 4, 2) := by decide +kernel
theorem dX1_addNumber_70 : decode cX1_addNumber 70 = .ok (.ldiv, 1) := by decide +kernel
theorem dX1_addNumber_71 : decode cX1_addNumber 71 = .ok (.ldc2_w 29, 3) := by decide +kernel
theorem dX1_addNumber_74 : decode cX1_addNumber 74 = .ok (.lrem, 1) := by decide +kernel
theorem dX1_addNumber_75 : decode cX1_addNumber 75 = .ok (.ladd, 1) := by decide +kernel
theorem dX1_addNumber_76 : decode cX1_addNumber 76 = .ok (.l2i, 1) := by decide +kernel
theorem dX1_addNumber_77 : decode cX1_addNumber 77 = .ok (.i2c, 1) := by decide +kernel
theorem dX1_addNumber_78 : decode cX1_addNumber 78 = .ok (.invokevirtual 25, 3) := by decide +kernel
theorem dX1_addNumber_81 : decode cX1_addNumber 81 = .ok (.lload 4, 2) := by decide +kernel
theorem dX1_addNumber_83 : decode cX1_addNumber 83 = .ok (.ldc2_w 29, 3) := by decide +kernel
theorem dX1_addNumber_86 : decode cX1_addNumber 86 = .ok (.ldiv, 1) := by decide +kernel
theorem dX1_addNumber_87 : decode cX1_addNumber 87 = .ok (.lstore 4, 2) := by decide +kernel
theorem dX1_addNumber_89 : decode cX1_addNumber 89 = .ok (.goto (-33), 3) := by decide +kernel
theorem dX1_addNumber_92 : decode cX1_addNumber 92 = .ok (.return_, 1) := by decide +kernel
theorem dX2_init_0 : decode cX2_init 0 = .ok (.aload_n 0, 1) := by decide +kernel
theorem dX2_init_1 : decode cX2_init 1 = .ok (.invokespecial 3, 3) := by decide +kernel
theorem dX2_init_4 : decode cX2_init 4 = .ok (.aload_n 0, 1) := by decide +kernel
theorem dX2_init_5 : decode cX2_init 5 = .ok (.bipush 60, 2) := by decide +kernel
theorem dX2_init_7 : decode cX2_init 7 = .ok (.newarray .long, 2) := by decide +kernel
theorem dX2_init_9 : decode cX2_init 9 = .ok (.putfield 9, 3) := by decide +kernel
theorem dX2_init_12 : decode cX2_init 12 = .ok (.return_, 1) := by decide +kernel
theorem dX2_findError_0 : decode cX2_findError 0 = .ok (.aload_n 0, 1) := by decide +kernel
theorem dX2_findError_1 : decode cX2_findError 1 = .ok (.iconst 0, 1) := by decide +kernel
theorem dX2_findError_2 : decode cX2_findError 2 = .ok (.putfield 15, 3) := by decide +kernel
theorem dX2_findError_5 : decode cX2_findError 5 = .ok (.aload_n 0, 1) := by decide +kernel
theorem dX2_findError_6 : decode cX2_findError 6 = .ok (.iconst 0, 1) := by decide +kernel
theorem dX2_findError_7 : decode cX2_findError 7 = .ok (.putfield 19, 3) := by decide +kernel
theorem dX2_findError_10 : decode cX2_findError 10 = .ok (.iconst 0, 1) := by decide +kernel
theorem dX2_findError_11 : decode cX2_findError 11 = .ok (.istore_n 2, 1) := by decide +kernel
theorem dX2_findError_12 : decode cX2_findError 12 = .ok (.iload_n 2, 1) := by decide +kernel
theorem dX2_findError_13 : decode cX2_findError 13 = .ok (.bipush 120, 2) := by decide +kernel
theorem dX2_findError_15 : decode cX2_findError 15 = .ok (.if_icmp .gt 91, 3) := by decide +kernel
theorem dX2_findError_18 : decode cX2_findError 18 = .ok (.aload_n 0, 1) := by decide +kernel
theorem dX2_findError_19 : decode cX2_findError 19 = .ok (.aload_n 1, 1) := by decide +kernel
theorem dX2_findError_20 : decode cX2_findError 20 = .ok (.invokevirtual 22, 3) := by decide +kernel
theorem dX2_findError_23 : decode cX2_findError 23 = .ok (.ifCond .ne 8, 3) := by decide +kernel
theorem dX2_findError_26 : decode cX2_findError 26 = .ok (.aload_n 0, 1) := by decide +kernel
theorem dX2_findError_27 : decode cX2_findError 27 = .ok (.getfield 19, 3) := by decide +kernel
theorem dX2_findError_30 : decode cX2_findError 30 = .ok (.ireturn, 1) := by decide +kernel
theorem dX2_findError_31 : decode cX2_findError 31 = .ok (.aload_n 0, 1) := by decide +kernel
theorem dX2_findError_32 : decode cX2_findError 32 = .ok (.getfield 15, 3) := by decide +kernel
theorem dX2_findError_35 : decode cX2_findError 35 = .ok (.iconst 1, 1) := by decide +kernel
theorem dX2_findError_36 : decode cX2_findError 36 = .ok (.isub, 1) := by decide +kernel
theorem dX2_findError_37 : decode cX2_findError 37 = .ok (.invokestatic 26, 3) := by decide +kernel
theorem dX2_findError_40 : decode cX2_findError 40 = .ok (.istore_n 3, 1) := by decide +kernel
theorem dX2_findError_41 : decode cX2_findError 41 = .ok (.aload_n 0, 1) := by decide +kernel
theorem dX2_findError_42 : decode cX2_findError 42 = .ok (.getfield 19, 3) := by decide +kernel
theorem dX2_findError_45 : decode cX2_findError 45 = .ok (.aload_n 1, 1) := by decide +kernel
theorem dX2_findError_46 : decode cX2_findError 46 = .ok (.invokevirtual 30, 3) := by decide +kernel
theorem dX2_findError_49 : decode cX2_findError 49 = .ok (.if_icmp .lt 16, 3) := by decide +kernel
theorem dX2_findError_52 : decode cX2_findError 52 = .ok (.iload_n 3, 1) := by decide +kernel
theorem dX2_findError_53 : decode cX2_findError 53 = .ok (.ifCond .eq 7, 3) := by decide +kernel
theorem dX2_findError_56 : decode cX2_findError 56 = .ok (.iconst (-1), 1) := by decide +kernel
theorem dX2_findError_57 : decode cX2_findError 57 = .ok (.goto 7, 3) := by decide +kernel
theorem dX2_findError_60 : decode cX2_findError 60 = .ok (.aload_n 0, 1) := by decide +kernel
theorem dX2_findError_61 : decode cX2_findError 61 = .ok (.getfield 19, 3) := by decide +kernel
theorem dX2_findError_64 : decode cX2_findError 64 = .ok (.ireturn, 1) := by decide +kernel
theorem dX2_findError_65 : decode cX2_findError 65 = .ok (.aload_n 1, 1) := by decide +kernel
theorem dX2_findError_66 : decode cX2_findError 66 = .ok (.aload_n 0, 1) := by decide +kernel
theorem dX2_findError_67 : decode cX2_findError 67 = .ok (.getfield 19, 3) := by decide +kernel
theorem dX2_findError_70 : decode cX2_findError 70 = .ok (.invokevirtual 36, 3) := by decide +kernel
theorem dX2_findError_73 : decode cX2_findError 73 = .ok (.aload_n 0, 1) := by decide +kernel
theorem dX2_findError_74 : decode cX2_findError 74 = .ok (.getfield 15, 3) := by decide +kernel
theorem dX2_findError_77 : decode cX2_findError 77 = .ok (.iconst 1, 1) := by decide +kernel
theorem dX2_findError_78 : decode cX2_findError 78 = .ok (.isub, 1) := by decide +kernel
theorem dX2_findError_79 : decode cX2_findError 79 = .ok (.invokestatic 40, 3) := by decide +kernel
theorem dX2_findError_82 : decode cX2_findError 82 = .ok (.if_icmp .eq 8, 3) := by decide +kernel
theorem dX2_findError_85 : decode cX2_findError 85 = .ok (.aload_n 0, 1) := by decide +kernel
theorem dX2_findError_86 : decode cX2_findError 86 = .ok (.getfield 19, 3) := by decide +kernel
theorem dX2_findError_89 : decode cX2_findError 89 = .ok (.ireturn, 1) := by decide +kernel
theorem dX2_findError_90 : decode cX2_findError 90 = .ok (.aload_n 0, 1) := by decide +kernel
theorem dX2_findError_91 : decode cX2_findError 91 = .ok (.dup, 1) := by decide +kernel
theorem dX2_findError_92 : decode cX2_findError 92 = .ok (.getfield 19, 3) := by decide +kernel
theorem dX2_findError_95 : decode cX2_findError 95 = .ok (.iconst 1, 1) := by decide +kernel
theorem dX2_findError_96 : decode cX2_findError 96 = .ok (.iadd, 1) := by decide +kernel
theorem dX2_findError_97 : decode cX2_findError 97 = .ok (.putfield 19, 3) := by decide +kernel
theorem dX2_findError_100 : decode cX2_findError 100 = .ok (.iinc 2 1, 3) := by decide +kernel
theorem dX2_findError_103 : decode cX2_findError 103 = .ok (.goto (-91), 3) := by decide +kernel
theorem dX2_findError_106 : decode cX2_findError 106 = .ok (.aload_n 0, 1) := by decide +kernel
theorem dX2_findError_107 : decode cX2_findError 107 = .ok (.getfield 19, 3) := by decide +kernel
theorem dX2_findError_110 : decode cX2_findError 110 = .ok (.ireturn, 1) := by decide +kernel
theorem dX2_takeNumber_0 : decode cX2_takeNumber 0 = .ok (.aload_n 0, 1) := by decide +kernel
theorem dX2_takeNumber_1 : decode cX2_takeNumber 1 = .ok (.getfield 19, 3) := by decide +kernel
theorem dX2_takeNumber_4 : decode cX2_takeNumber 4 = .ok (.aload_n 1, 1) := by decide +kernel
theorem dX2_takeNumber_5 : decode cX2_takeNumber 5 = .ok (.invokevirtual 30, 3) := by decide +kernel
theorem dX2_takeNumber_8 : decode cX2_takeNumber 8 = .ok (.if_icmp .ge 20, 3) := by decide +kernel
theorem dX2_takeNumber_11 : decode cX2_takeNumber 11 = .ok (.aload_n 1, 1) := by decide +kernel
theorem dX2_takeNumber_12 : decode cX2_takeNumber 12 = .ok (.aload_n 0, 1) := by decide +kernel
theorem dX2_takeNumber_13 : decode cX2_takeNumber 13 = .ok (.getfield 19, 3) := by decide +kernel
theorem dX2_takeNumber_16 : decode cX2_takeNumber 16 = .ok (.invokevirtual 36, 3) := by decide +kernel
theorem dX2_takeNumber_19 : decode cX2_takeNumber 19 = .ok (.bipush 45, 2) := by decide +kernel
theorem dX2_takeNumber_21 : decode cX2_takeNumber 21 = .ok (.if_icmp .ne 7, 3) := by decide +kernel
theorem dX2_takeNumber_24 : decode cX2_takeNumber 24 = .ok (.iconst 1, 1) := by decide +kernel
theorem dX2_takeNumber_25 : decode cX2_takeNumber 25 = .ok (.goto 4, 3) := by decide +kernel
theorem dX2_takeNumber_28 : decode cX2_takeNumber 28 = .ok (.iconst 0, 1) := by decide +kernel
theorem dX2_takeNumber_29 : decode cX2_takeNumber 29 = .ok (.istore_n 2, 1) := by decide +kernel
theorem dX2_takeNumber_30 : decode cX2_takeNumber 30 = .ok (.iload_n 2, 1) := by decide +kernel
theorem dX2_takeNumber_31 : decode cX2_takeNumber 31 = .ok (.ifCond .eq 13, 3) := by decide +kernel
theorem dX2_takeNumber_34 : decode cX2_takeNumber 34 = .ok (.aload_n 0, 1) := by decide +kernel
theorem dX2_takeNumber_35 : decode cX2_takeNumber 35 = .ok (.dup, 1) := by decide +kernel
theorem dX2_takeNumber_36 : decode cX2_takeNumber 36 = .ok (.getfield 19, 3) := by decide +kernel
theorem dX2_takeNumber_39 : decode cX2_takeNumber 39 = .ok (.iconst 1, 1) := by decide +kernel
theorem dX2_takeNumber_40 : decode cX2_takeNumber 40 = .ok (.iadd, 1) := by decide +kernel
theorem dX2_takeNumber_41 : decode cX2_takeNumber 41 = .ok (.putfield 19, 3) := by decide +kernel
theorem dX2_takeNumber_44 : decode cX2_takeNumber 44 = .ok (.lconst 0, 1) := by decide +kernel
theorem dX2_takeNumber_45 : decode cX2_takeNumber 45 = .ok (.lstore_n 3, 1) := by decide +kernel
theorem dX2_takeNumber_46 : decode cX2_takeNumber 46 = .ok (.iconst 0, 1) := by decide +kernel
theorem dX2_takeNumber_47 : decode cX2_takeNumber 47 = .ok (.istore 5, 2) := by decide +kernel
theorem dX2_takeNumber_49 : decode cX2_takeNumber 49 = .ok (.iload 5, 2) := by decide +kernel
theorem dX2_takeNumber_51 : decode cX2_takeNumber 51 = .ok (.bipush 10, 2) := by decide +kernel
theorem dX2_takeNumber_53 : decode cX2_takeNumber 53 = .ok (.if_icmp .ge 49, 3) := by decide +kernel
theorem dX2_takeNumber_56 : decode cX2_takeNumber 56 = .ok (.aload_n 1, 1) := by decide +kernel
theorem dX2_takeNumber_57 : decode cX2_takeNumber 57 = .ok (.aload_n 0, 1) := by decide +kernel
theorem dX2_takeNumber_58 : decode cX2_takeNumber 58 = .ok (.getfield 19, 3) := by decide +kernel
theorem dX2_takeNumber_61 : decode cX2_takeNumber 61 = .ok (.invokestatic 43, 3) := by decide +kernel
theorem dX2_takeNumber_64 : decode cX2_takeNumber 64 = .ok (.ifCond .eq 38, 3) := by decide +kernel
theorem dX2_takeNumber_67 : decode cX2_takeNumber 67 = .ok (.lload_n 3, 1) := by decide +kernel
theorem dX2_takeNumber_68 : decode cX2_takeNumber 68 = .ok (.ldc2_w 47, 3) := by decide +kernel
theorem dX2_takeNumber_71 : decode cX2_takeNumber 71 = .ok (.lmul, 1) := by decide +kernel
theorem dX2_takeNumber_72 : decode cX2_takeNumber 72 = .ok (.aload_n 1, 1) := by decide +kernel
theorem dX2_takeNumber_73 : decode cX2_takeNumber 73 = .ok (.aload_n 0, 1) := by decide +kernel
theorem dX2_takeNumber_74 : decode cX2_takeNumber 74 = .ok (.getfield 19, 3) := by decide +kernel
theorem dX2_takeNumber_77 : decode cX2_takeNumber 77 = .ok (.invokevirtual 36, 3) := by decide +kernel
theorem dX2_takeNumber_80 : decode cX2_takeNumber 80 = .ok (.bipush 48, 2) := by decide +kernel
theorem dX2_takeNumber_82 : decode cX2_takeNumber 82 = .ok (.isub, 1) := by decide +kernel
theorem dX2_takeNumber_83 : decode cX2_takeNumber 83 = .ok (.i2l, 1) := by decide +kernel
theorem dX2_takeNumber_84 : decode cX2_takeNumber 84 = .ok (.ladd, 1) := by decide +kernel
theorem dX2_takeNumber_85 : decode cX2_takeNumber 85 = .ok (.lstore_n 3, 1) := by decide +kernel
theorem dX2_takeNumber_86 : decode cX2_takeNumber 86 = .ok (.aload_n 0, 1) := by decide +kernel
theorem dX2_takeNumber_87 : decode cX2_takeNumber 87 = .ok (.dup, 1) := by decide +kernel
theorem dX2_takeNumber_88 : decode cX2_takeNumber 88 = .ok (.getfield 19, 3) := by decide +kernel
theorem dX2_takeNumber_91 : decode cX2_takeNumber 91 = .ok (.iconst 1, 1) := by decide +kernel
theorem dX2_takeNumber_92 : decode cX2_takeNumber 92 = .ok (.iadd, 1) := by decide +kernel
theorem dX2_takeNumber_93 : decode cX2_takeNumber 93 = .ok (.putfield 19, 3) := by decide +kernel
theorem dX2_takeNumber_96 : decode cX2_takeNumber 96 = .ok (.iinc 5 1, 3) := by decide +kernel
theorem dX2_takeNumber_99 : decode cX2_takeNumber 99 = .ok (.goto (-50), 3) := by decide +kernel
theorem dX2_takeNumber_102 : decode cX2_takeNumber 102 = .ok (.iload 5, 2) := by decide +kernel
theorem dX2_takeNumber_104 : decode cX2_takeNumber 104 = .ok (.ifCond .eq 15, 3) := by decide +kernel
theorem dX2_takeNumber_107 : decode cX2_takeNumber 107 = .ok (.aload_n 0, 1) := by decide +kernel
theorem dX2_takeNumber_108 : decode cX2_takeNumber 108 = .ok (.getfield 15, 3) := by decide +kernel
theorem dX2_takeNumber_111 : decode cX2_takeNumber 111 = .ok (.aload_n 0, 1) := by decide +kernel
theorem dX2_takeNumber_112 : decode cX2_takeNumber 112 = .ok (.getfield 9, 3) := by decide +kernel
theorem dX2_takeNumber_115 : decode cX2_takeNumber 115 = .ok (.arraylength, 1) := by decide +kernel
theorem dX2_takeNumber_116 : decode cX2_takeNumber 116 = .ok (.if_icmp .lt 5, 3) := by decide +kernel
theorem dX2_takeNumber_119 : decode cX2_takeNumber 119 = .ok (.iconst 0, 1) := by decide +kernel
theorem dX2_takeNumber_120 : decode cX2_takeNumber 120 = .ok (.ireturn, 1) := by decide +kernel
theorem dX2_takeNumber_121 : decode cX2_takeNumber 121 = .ok (.aload_n 0, 1) := by decide +kernel
theorem dX2_takeNumber_122 : decode cX2_takeNumber 122 = .ok (.getfield 9, 3) := by decide +kernel
theorem dX2_takeNumber_125 : decode cX2_takeNumber 125 = .ok (.aload_n 0, 1) := by decide +kernel
theorem dX2_takeNumber_126 : decode cX2_takeNumber 126 = .ok (.getfield 15, 3) := by decide +kernel
theorem dX2_takeNumber_129 : decode cX2_takeNumber 129 = .ok (.iload_n 2, 1) := by decide +kernel
theorem dX2_takeNumber_130 : decode cX2_takeNumber 130 = .ok (.ifCond .eq 8, 3) := by decide +kernel
theorem dX2_takeNumber_133 : decode cX2_takeNumber 133 = .ok (.lload_n 3, 1) := by decide +kernel
theorem dX2_takeNumber_134 : decode cX2_takeNumber 134 = .ok (.lneg, 1) := by decide +kernel
theorem dX2_takeNumber_135 : decode cX2_takeNumber 135 = .ok (.goto 4, 3) := by decide +kernel
theorem dX2_takeNumber_138 : decode cX2_takeNumber 138 = .ok (.lload_n 3, 1) := by decide +kernel
theorem dX2_takeNumber_139 : decode cX2_takeNumber 139 = .ok (.lastore, 1) := by decide +kernel
theorem dX2_takeNumber_140 : decode cX2_takeNumber 140 = .ok (.aload_n 0, 1) := by decide +kernel
theorem dX2_takeNumber_141 : decode cX2_takeNumber 141 = .ok (.dup, 1) := by decide +kernel
theorem dX2_takeNumber_142 : decode cX2_takeNumber 142 = .ok (.getfield 15, 3) := by decide +kernel
theorem dX2_takeNumber_145 : decode cX2_takeNumber 145 = .ok (.iconst 1, 1) := by decide +kernel
theorem dX2_takeNumber_146 : decode cX2_takeNumber 146 = .ok (.iadd, 1) := by decide +kernel
theorem dX2_takeNumber_147 : decode cX2_takeNumber 147 = .ok (.putfield 15, 3) := by decide +kernel
theorem dX2_takeNumber_150 : decode cX2_takeNumber 150 = .ok (.iconst 1, 1) := by decide +kernel
theorem dX2_takeNumber_151 : decode cX2_takeNumber 151 = .ok (.ireturn, 1) := by decide +kernel
theorem dX2_isDigit_0 : decode cX2_isDigit 0 = .ok (.iload_n 1, 1) := by decide +kernel
theorem dX2_isDigit_1 : decode cX2_isDigit 1 = .ok (.aload_n 0, 1) := by decide +kernel
theorem dX2_isDigit_2 : decode cX2_isDigit 2 = .ok (.invokevirtual 30, 3) := by decide +kernel
theorem dX2_isDigit_5 : decode cX2_isDigit 5 = .ok (.if_icmp .ge 25, 3) := by decide +kernel
theorem dX2_isDigit_8 : decode cX2_isDigit 8 = .ok (.aload_n 0, 1) := by decide +kernel
theorem dX2_isDigit_9 : decode cX2_isDigit 9 = .ok (.iload_n 1, 1) := by decide +kernel
theorem dX2_isDigit_10 : decode cX2_isDigit 10 = .ok (.invokevirtual 36, 3) := by decide +kernel
theorem dX2_isDigit_13 : decode cX2_isDigit 13 = .ok (.i2l, 1) := by decide +kernel
theorem dX2_isDigit_14 : decode cX2_isDigit 14 = .ok (.ldc2_w 49, 3) := by decide +kernel
theorem dX2_isDigit_17 : decode cX2_isDigit 17 = .ok (.ldc2_w 51, 3) := by decide +kernel
theorem dX2_isDigit_20 : decode cX2_isDigit 20 = .ok (.invokestatic 53, 3) := by decide +kernel
theorem dX2_isDigit_23 : decode cX2_isDigit 23 = .ok (.ifCond .eq 7, 3) := by decide +kernel
theorem dX2_isDigit_26 : decode cX2_isDigit 26 = .ok (.iconst 1, 1) := by decide +kernel
theorem dX2_isDigit_27 : decode cX2_isDigit 27 = .ok (.goto 4, 3) := by decide +kernel
theorem dX2_isDigit_30 : decode cX2_isDigit 30 = .ok (.iconst 0, 1) := by decide +kernel
theorem dX2_isDigit_31 : decode cX2_isDigit 31 = .ok (.ireturn, 1) := by decide +kernel
theorem dX2_isLastOfPart_0 : decode cX2_isLastOfPart 0 = .ok (.iload_n 0, 1) := by decide +kernel
theorem dX2_isLastOfPart_1 : decode cX2_isLastOfPart 1 = .ok (.iconst 4, 1) := by decide +kernel
theorem dX2_isLastOfPart_2 : decode cX2_isLastOfPart 2 = .ok (.if_icmp .ge 16, 3) := by decide +kernel
theorem dX2_isLastOfPart_5 : decode cX2_isLastOfPart 5 = .ok (.iload_n 0, 1) := by decide +kernel
theorem dX2_isLastOfPart_6 : decode cX2_isLastOfPart 6 = .ok (.iconst 3, 1) := by decide +kernel
theorem dX2_isLastOfPart_7 : decode cX2_isLastOfPart 7 = .ok (.if_icmp .ne 7, 3) := by decide +kernel
theorem dX2_isLastOfPart_10 : decode cX2_isLastOfPart 10 = .ok (.iconst 1, 1) := by decide +kernel
theorem dX2_isLastOfPart_11 : decode cX2_isLastOfPart 11 = .ok (.goto 21, 3) := by decide +kernel
theorem dX2_isLastOfPart_14 : decode cX2_isLastOfPart 14 = .ok (.iconst 0, 1) := by decide +kernel
theorem dX2_isLastOfPart_15 : decode cX2_isLastOfPart 15 = .ok (.goto 17, 3) := by decide +kernel
theorem dX2_isLastOfPart_18 : decode cX2_isLastOfPart 18 = .ok (.iload_n 0, 1) := by decide +kernel
theorem dX2_isLastOfPart_19 : decode cX2_isLastOfPart 19 = .ok (.iconst 4, 1) := by decide +kernel
theorem dX2_isLastOfPart_20 : decode cX2_isLastOfPart 20 = .ok (.isub, 1) := by decide +kernel
theorem dX2_isLastOfPart_21 : decode cX2_isLastOfPart 21 = .ok (.iconst 5, 1) := by decide +kernel
theorem dX2_isLastOfPart_22 : decode cX2_isLastOfPart 22 = .ok (.irem, 1) := by decide +kernel
theorem dX2_isLastOfPart_23 : decode cX2_isLastOfPart 23 = .ok (.iconst 4, 1) := by decide +kernel
theorem dX2_isLastOfPart_24 : decode cX2_isLastOfPart 24 = .ok (.if_icmp .ne 7, 3) := by decide +kernel
theorem dX2_isLastOfPart_27 : decode cX2_isLastOfPart 27 = .ok (.iconst 1, 1) := by decide +kernel
theorem dX2_isLastOfPart_28 : decode cX2_isLastOfPart 28 = .ok (.goto 4, 3) := by decide +kernel
theorem dX2_isLastOfPart_31 : decode cX2_isLastOfPart 31 = .ok (.iconst 0, 1) := by decide +kernel
theorem dX2_isLastOfPart_32 : decode cX2_isLastOfPart 32 = .ok (.ireturn, 1) := by decide +kernel
theorem dX2_separatorAfter_0 : decode cX2_separatorAfter 0 = .ok (.iload_n 0, 1) := by decide +kernel
theorem dX2_separatorAfter_1 : decode cX2_separatorAfter 1 = .ok (.invokestatic 26, 3) := by decide +kernel
theorem dX2_separatorAfter_4 : decode cX2_separatorAfter 4 = .ok (.ifCond .eq 6, 3) := by decide +kernel
theorem dX2_separatorAfter_7 : decode cX2_separatorAfter 7 = .ok (.bipush 59, 2) := by decide +kernel
theorem dX2_separatorAfter_9 : decode cX2_separatorAfter 9 = .ok (.ireturn, 1) := by decide +kernel
theorem dX2_separatorAfter_10 : decode cX2_separatorAfter 10 = .ok (.iload_n 0, 1) := by decide +kernel
theorem dX2_separatorAfter_11 : decode cX2_separatorAfter 11 = .ok (.iconst 4, 1) := by decide +kernel
theorem dX2_separatorAfter_12 : decode cX2_separatorAfter 12 = .ok (.if_icmp .ge 8, 3) := by decide +kernel
theorem dX2_separatorAfter_15 : decode cX2_separatorAfter 15 = .ok (.bipush 47, 2) := by decide +kernel
theorem dX2_separatorAfter_17 : decode cX2_separatorAfter 17 = .ok (.goto 5, 3) := by decide +kernel
theorem dX2_separatorAfter_20 : decode cX2_separatorAfter 20 = .ok (.bipush 44, 2) := by decide +kernel
theorem dX2_separatorAfter_22 : decode cX2_separatorAfter 22 = .ok (.ireturn, 1) := by decide +kernel
theorem dX2_numberAt_0 : decode cX2_numberAt 0 = .ok (.iload_n 1, 1) := by decide +kernel
theorem dX2_numberAt_1 : decode cX2_numberAt 1 = .ok (.ifCond .lt 20, 3) := by decide +kernel
theorem dX2_numberAt_4 : decode cX2_numberAt 4 = .ok (.iload_n 1, 1) := by decide +kernel
theorem dX2_numberAt_5 : decode cX2_numberAt 5 = .ok (.aload_n 0, 1) := by decide +kernel
theorem dX2_numberAt_6 : decode cX2_numberAt 6 = .ok (.getfield 15, 3) := by decide +kernel
theorem dX2_numberAt_9 : decode cX2_numberAt 9 = .ok (.if_icmp .ge 12, 3) := by decide +kernel
theorem dX2_numberAt_12 : decode cX2_numberAt 12 = .ok (.iload_n 1, 1) := by decide +kernel
theorem dX2_numberAt_13 : decode cX2_numberAt 13 = .ok (.aload_n 0, 1) := by decide +kernel
theorem dX2_numberAt_14 : decode cX2_numberAt 14 = .ok (.getfield 9, 3) := by decide +kernel
theorem dX2_numberAt_17 : decode cX2_numberAt 17 = .ok (.arraylength, 1) := by decide +kernel
theorem dX2_numberAt_18 : decode cX2_numberAt 18 = .ok (.if_icmp .lt 7, 3) := by decide +kernel
theorem dX2_numberAt_21 : decode cX2_numberAt 21 = .ok (.lconst 0, 1) := by decide +kernel
theorem dX2_numberAt_22 : decode cX2_numberAt 22 = .ok (.goto 9, 3) := by decide +kernel
theorem dX2_numberAt_25 : decode cX2_numberAt 25 = .ok (.aload_n 0, 1) := by decide +kernel
theorem dX2_numberAt_26 : decode cX2_numberAt 26 = .ok (.getfield 9, 3) := by decide +kernel
theorem dX2_numberAt_29 : decode cX2_numberAt 29 = .ok (.iload_n 1, 1) := by decide +kernel
theorem dX2_numberAt_30 : decode cX2_numberAt 30 = .ok (.laload, 1) := by decide +kernel
theorem dX2_numberAt_31 : decode cX2_numberAt 31 = .ok (.lreturn, 1) := by decide +kernel
theorem dX2_items_0 : decode cX2_items 0 = .ok (.aload_n 0, 1) := by decide +kernel
theorem dX2_items_1 : decode cX2_items 1 = .ok (.getfield 15, 3) := by decide +kernel
theorem dX2_items_4 : decode cX2_items 4 = .ok (.iconst 4, 1) := by decide +kernel
theorem dX2_items_5 : decode cX2_items 5 = .ok (.isub, 1) := by decide +kernel
theorem dX2_items_6 : decode cX2_items 6 = .ok (.iconst 5, 1) := by decide +kernel
theorem dX2_items_7 : decode cX2_items 7 = .ok (.idiv, 1) := by decide +kernel
theorem dX2_items_8 : decode cX2_items 8 = .ok (.ireturn, 1) := by decide +kernel
theorem dX2_partAt_0 : decode cX2_partAt 0 = .ok (.aload_n 0, 1) := by decide +kernel
theorem dX2_partAt_1 : decode cX2_partAt 1 = .ok (.iconst 4, 1) := by decide +kernel
theorem dX2_partAt_2 : decode cX2_partAt 2 = .ok (.iload_n 1, 1) := by decide +kernel
theorem dX2_partAt_3 : decode cX2_partAt 3 = .ok (.iconst 5, 1) := by decide +kernel
theorem dX2_partAt_4 : decode cX2_partAt 4 = .ok (.imul, 1) := by decide +kernel
theorem dX2_partAt_5 : decode cX2_partAt 5 = .ok (.iadd, 1) := by decide +kernel
theorem dX2_partAt_6 : decode cX2_partAt 6 = .ok (.iload_n 2, 1) := by decide +kernel
theorem dX2_partAt_7 : decode cX2_partAt 7 = .ok (.iadd, 1) := by decide +kernel
theorem dX2_partAt_8 : decode cX2_partAt 8 = .ok (.invokevirtual 57, 3) := by decide +kernel
theorem dX2_partAt_11 : decode cX2_partAt 11 = .ok (.lreturn, 1) := by decide +kernel
theorem dX2_isInRange_0 : decode cX2_isInRange 0 = .ok (.aload_n 0, 1) := by decide +kernel
theorem dX2_isInRange_1 : decode cX2_isInRange 1 = .ok (.iconst 0, 1) := by decide +kernel
theorem dX2_isInRange_2 : decode cX2_isInRange 2 = .ok (.invokevirtual 57, 3) := by decide +kernel
theorem dX2_isInRange_5 : decode cX2_isInRange 5 = .ok (.aload_n 0, 1) := by decide +kernel
theorem dX2_isInRange_6 : decode cX2_isInRange 6 = .ok (.iconst 1, 1) := by decide +kernel
theorem dX2_isInRange_7 : decode cX2_isInRange 7 = .ok (.invokevirtual 57, 3) := by decide +kernel
theorem dX2_isInRange_10 : decode cX2_isInRange 10 = .ok (.aload_n 0, 1) := by decide +kernel
theorem dX2_isInRange_11 : decode cX2_isInRange 11 = .ok (.iconst 3, 1) := by decide +kernel
theorem dX2_isInRange_12 : decode cX2_isInRange 12 = .ok (.invokevirtual 57, 3) := by decide +kernel
theorem dX2_isInRange_15 : decode cX2_isInRange 15 = .ok (.invokestatic 61, 3) := by decide +kernel
theorem dX2_isInRange_18 : decode cX2_isInRange 18 = .ok (.ifCond .eq 20, 3) := by decide +kernel
theorem dX2_isInRange_21 : decode cX2_isInRange 21 = .ok (.aload_n 0, 1) := by decide +kernel
theorem dX2_isInRange_22 : decode cX2_isInRange 22 = .ok (.iconst 2, 1) := by decide +kernel
theorem dX2_isInRange_23 : decode cX2_isInRange 23 = .ok (.invokevirtual 57, 3) := by decide +kernel
theorem dX2_isInRange_26 : decode cX2_isInRange 26 = .ok (.ldc2_w 66, 3) := by decide +kernel
theorem dX2_isInRange_29 : decode cX2_isInRange 29 = .ok (.ldc2_w 68, 3) := by decide +kernel
theorem dX2_isInRange_32 : decode cX2_isInRange 32 = .ok (.invokestatic 53, 3) := by decide +kernel
theorem dX2_isInRange_35 : decode cX2_isInRange 35 = .ok (.ifCond .ne 5, 3) := by decide +kernel
theorem dX2_isInRange_38 : decode cX2_isInRange 38 = .ok (.iconst 0, 1) := by decide +kernel
theorem dX2_isInRange_39 : decode cX2_isInRange 39 = .ok (.ireturn, 1) := by decide +kernel
theorem dX2_isInRange_40 : decode cX2_isInRange 40 = .ok (.ldc2_w 70, 3) := by decide +kernel
theorem dX2_isInRange_43 : decode cX2_isInRange 43 = .ok (.lstore_n 1, 1) := by decide +kernel
theorem dX2_isInRange_44 : decode cX2_isInRange 44 = .ok (.iconst 0, 1) := by decide +kernel
theorem dX2_isInRange_45 : decode cX2_isInRange 45 = .ok (.istore_n 3, 1) := by decide +kernel
theorem dX2_isInRange_46 : decode cX2_isInRange 46 = .ok (.iload_n 3, 1) := by decide +kernel
theorem dX2_isInRange_47 : decode cX2_isInRange 47 = .ok (.aload_n 0, 1) := by decide +kernel
theorem dX2_isInRange_48 : decode cX2_isInRange 48 = .ok (.invokevirtual 72, 3) := by decide +kernel
theorem dX2_isInRange_51 : decode cX2_isInRange 51 = .ok (.if_icmp .ge 68, 3) := by decide +kernel
theorem dX2_isInRange_54 : decode cX2_isInRange 54 = .ok (.aload_n 0, 1) := by decide +kernel
theorem dX2_isInRange_55 : decode cX2_isInRange 55 = .ok (.iload_n 3, 1) := by decide +kernel
theorem dX2_isInRange_56 : decode cX2_isInRange 56 = .ok (.iconst 0, 1) := by decide +kernel
theorem dX2_isInRange_57 : decode cX2_isInRange 57 = .ok (.invokevirtual 75, 3) := by decide +kernel
theorem dX2_isInRange_60 : decode cX2_isInRange 60 = .ok (.lstore 4, 2) := by decide +kernel
theorem dX2_isInRange_62 : decode cX2_isInRange 62 = .ok (.lload 4, 2) := by decide +kernel
theorem dX2_isInRange_64 : decode cX2_isInRange 64 = .ok (.lload_n 1, 1) := by decide +kernel
theorem dX2_isInRange_65 : decode cX2_isInRange 65 = .ok (.lcmp, 1) := by decide +kernel
theorem dX2_isInRange_66 : decode cX2_isInRange 66 = .ok (.ifCond .le 42, 3) := by decide +kernel
theorem dX2_isInRange_69 : decode cX2_isInRange 69 = .ok (.lload 4, 2) := by decide +kernel
theorem dX2_isInRange_71 : decode cX2_isInRange 71 = .ok (.ldc2_w 79, 3) := by decide +kernel
theorem dX2_isInRange_74 : decode cX2_isInRange 74 = .ok (.lcmp, 1) := by decide +kernel
theorem dX2_isInRange_75 : decode cX2_isInRange 75 = .ok (.ifCond .gt 33, 3) := by decide +kernel
theorem dX2_isInRange_78 : decode cX2_isInRange 78 = .ok (.aload_n 0, 1) := by decide +kernel
theorem dX2_isInRange_79 : decode cX2_isInRange 79 = .ok (.iload_n 3, 1) := by decide +kernel
theorem dX2_isInRange_80 : decode cX2_isInRange 80 = .ok (.iconst 1, 1) := by decide +kernel
theorem dX2_isInRange_81 : decode cX2_isInRange 81 = .ok (.invokevirtual 75, 3) := by decide +kernel
theorem dX2_isInRange_84 : decode cX2_isInRange 84 = .ok (.aload_n 0, 1) := by decide +kernel
theorem dX2_isInRange_85 : decode cX2_isInRange 85 = .ok (.iload_n 3, 1) := by decide +kernel
theorem dX2_isInRange_86 : decode cX2_isInRange 86 = .ok (.iconst 2, 1) := by decide +kernel
theorem dX2_isInRange_87 : decode cX2_isInRange 87 = .ok (.invokevirtual 75, 3) := by decide +kernel
theorem dX2_isInRange_90 : decode cX2_isInRange 90 = .ok (.aload_n 0, 1) := by decide +kernel
theorem dX2_isInRange_91 : decode cX2_isInRange 91 = .ok (.iload_n 3, 1) := by decide +kernel
theorem dX2_isInRange_92 : decode cX2_isInRange 92 = .ok (.iconst 3, 1) := by decide +kernel
theorem dX2_isInRange_93 : decode cX2_isInRange 93 = .ok (.invokevirtual 75, 3) := by decide +kernel
theorem dX2_isInRange_96 : decode cX2_isInRange 96 = .ok (.aload_n 0, 1) := by decide +kernel
theorem dX2_isInRange_97 : decode cX2_isInRange 97 = .ok (.iload_n 3, 1) := by decide +kernel
theorem dX2_isInRange_98 : decode cX2_isInRange 98 = .ok (.iconst 4, 1) := by decide +kernel
theorem dX2_isInRange_99 : decode cX2_isInRange 99 = .ok (.invokevirtual 75, 3) := by decide +kernel
theorem dX2_isInRange_102 : decode cX2_isInRange 102 = .ok (.invokestatic 81, 3) := by decide +kernel
theorem dX2_isInRange_105 : decode cX2_isInRange 105 = .ok (.ifCond .ne 5, 3) := by decide +kernel
theorem dX2_isInRange_108 : decode cX2_isInRange 108 = .ok (.iconst 0, 1) := by decide +kernel
theorem dX2_isInRange_109 : decode cX2_isInRange 109 = .ok (.ireturn, 1) := by decide +kernel
theorem dX2_isInRange_110 : decode cX2_isInRange 110 = .ok (.lload 4, 2) := by decide +kernel
theorem dX2_isInRange_112 : decode cX2_isInRange 112 = .ok (.lstore_n 1, 1) := by decide +kernel
theorem dX2_isInRange_113 : decode cX2_isInRange 113 = .ok (.iinc 3 1, 3) := by decide +kernel
theorem dX2_isInRange_116 : decode cX2_isInRange 116 = .ok (.goto (-70), 3) := by decide +kernel
theorem dX2_isInRange_119 : decode cX2_isInRange 119 = .ok (.iconst 1, 1) := by decide +kernel
theorem dX2_isInRange_120 : decode cX2_isInRange 120 = .ok (.ireturn, 1) := by decide +kernel
theorem dX2_fitsSpan_0 : decode cX2_fitsSpan 0 = .ok (.aload_n 0, 1) := by decide +kernel
theorem dX2_fitsSpan_1 : decode cX2_fitsSpan 1 = .ok (.iconst 3, 1) := by decide +kernel
theorem dX2_fitsSpan_2 : decode cX2_fitsSpan 2 = .ok (.invokevirtual 57, 3) := by decide +kernel
theorem dX2_fitsSpan_5 : decode cX2_fitsSpan 5 = .ok (.lstore_n 1, 1) := by decide +kernel
theorem dX2_fitsSpan_6 : decode cX2_fitsSpan 6 = .ok (.aload_n 0, 1) := by decide +kernel
theorem dX2_fitsSpan_7 : decode cX2_fitsSpan 7 = .ok (.invokevirtual 72, 3) := by decide +kernel
theorem dX2_fitsSpan_10 : decode cX2_fitsSpan 10 = .ok (.i2l, 1) := by decide +kernel
theorem dX2_fitsSpan_11 : decode cX2_fitsSpan 11 = .ok (.lload_n 1, 1) := by decide +kernel
theorem dX2_fitsSpan_12 : decode cX2_fitsSpan 12 = .ok (.lconst 0, 1) := by decide +kernel
theorem dX2_fitsSpan_13 : decode cX2_fitsSpan 13 = .ok (.lcmp, 1) := by decide +kernel
theorem dX2_fitsSpan_14 : decode cX2_fitsSpan 14 = .ok (.ifCond .ne 9, 3) := by decide +kernel
theorem dX2_fitsSpan_17 : decode cX2_fitsSpan 17 = .ok (.ldc2_w 85, 3) := by decide +kernel
theorem dX2_fitsSpan_20 : decode cX2_fitsSpan 20 = .ok (.goto 4, 3) := by decide +kernel
theorem dX2_fitsSpan_23 : decode cX2_fitsSpan 23 = .ok (.lload_n 1, 1) := by decide +kernel
theorem dX2_fitsSpan_24 : decode cX2_fitsSpan 24 = .ok (.lcmp, 1) := by decide +kernel
theorem dX2_fitsSpan_25 : decode cX2_fitsSpan 25 = .ok (.ifCond .gt 7, 3) := by decide +kernel
theorem dX2_fitsSpan_28 : decode cX2_fitsSpan 28 = .ok (.iconst 1, 1) := by decide +kernel
theorem dX2_fitsSpan_29 : decode cX2_fitsSpan 29 = .ok (.goto 4, 3) := by decide +kernel
theorem dX2_fitsSpan_32 : decode cX2_fitsSpan 32 = .ok (.iconst 0, 1) := by decide +kernel
theorem dX2_fitsSpan_33 : decode cX2_fitsSpan 33 = .ok (.ireturn, 1) := by decide +kernel
theorem dX2_fill_0 : decode cX2_fill 0 = .ok (.aload_n 1, 1) := by decide +kernel
theorem dX2_fill_1 : decode cX2_fill 1 = .ok (.aload_n 0, 1) := by decide +kernel
theorem dX2_fill_2 : decode cX2_fill 2 = .ok (.iconst 0, 1) := by decide +kernel
theorem dX2_fill_3 : decode cX2_fill 3 = .ok (.invokevirtual 57, 3) := by decide +kernel
theorem dX2_fill_6 : decode cX2_fill 6 = .ok (.l2i, 1) := by decide +kernel
theorem dX2_fill_7 : decode cX2_fill 7 = .ok (.aload_n 0, 1) := by decide +kernel
theorem dX2_fill_8 : decode cX2_fill 8 = .ok (.iconst 1, 1) := by decide +kernel
theorem dX2_fill_9 : decode cX2_fill 9 = .ok (.invokevirtual 57, 3) := by decide +kernel
theorem dX2_fill_12 : decode cX2_fill 12 = .ok (.l2i, 1) := by decide +kernel
theorem dX2_fill_13 : decode cX2_fill 13 = .ok (.aload_n 0, 1) := by decide +kernel
theorem dX2_fill_14 : decode cX2_fill 14 = .ok (.iconst 2, 1) := by decide +kernel
theorem dX2_fill_15 : decode cX2_fill 15 = .ok (.invokevirtual 57, 3) := by decide +kernel
theorem dX2_fill_18 : decode cX2_fill 18 = .ok (.l2i, 1) := by decide +kernel
theorem dX2_fill_19 : decode cX2_fill 19 = .ok (.aload_n 0, 1) := by decide +kernel
theorem dX2_fill_20 : decode cX2_fill 20 = .ok (.iconst 3, 1) := by decide +kernel
theorem dX2_fill_21 : decode cX2_fill 21 = .ok (.invokevirtual 57, 3) := by decide +kernel
theorem dX2_fill_24 : decode cX2_fill 24 = .ok (.l2i, 1) := by decide +kernel
theorem dX2_fill_25 : decode cX2_fill 25 = .ok (.invokevirtual 87, 3) := by decide +kernel
theorem dX2_fill_28 : decode cX2_fill 28 = .ok (.iconst 0, 1) := by decide +kernel
theorem dX2_fill_29 : decode cX2_fill 29 = .ok (.istore_n 2, 1) := by decide +kernel
theorem dX2_fill_30 : decode cX2_fill 30 = .ok (.iload_n 2, 1) := by decide +kernel
theorem dX2_fill_31 : decode cX2_fill 31 = .ok (.aload_n 0, 1) := by decide +kernel
theorem dX2_fill_32 : decode cX2_fill 32 = .ok (.invokevirtual 72, 3) := by decide +kernel
theorem dX2_fill_35 : decode cX2_fill 35 = .ok (.if_icmp .ge 48, 3) := by decide +kernel
theorem dX2_fill_38 : decode cX2_fill 38 = .ok (.aload_n 1, 1) := by decide +kernel
theorem dX2_fill_39 : decode cX2_fill 39 = .ok (.aload_n 0, 1) := by decide +kernel
theorem dX2_fill_40 : decode cX2_fill 40 = .ok (.iload_n 2, 1) := by decide +kernel
theorem dX2_fill_41 : decode cX2_fill 41 = .ok (.iconst 0, 1) := by decide +kernel
theorem dX2_fill_42 : decode cX2_fill 42 = .ok (.invokevirtual 75, 3) := by decide +kernel
theorem dX2_fill_45 : decode cX2_fill 45 = .ok (.l2i, 1) := by decide +kernel
theorem dX2_fill_46 : decode cX2_fill 46 = .ok (.aload_n 0, 1) := by decide +kernel
theorem dX2_fill_47 : decode cX2_fill 47 = .ok (.iload_n 2, 1) := by decide +kernel
theorem dX2_fill_48 : decode cX2_fill 48 = .ok (.iconst 1, 1) := by decide +kernel
theorem dX2_fill_49 : decode cX2_fill 49 = .ok (.invokevirtual 75, 3) := by decide +kernel
theorem dX2_fill_52 : decode cX2_fill 52 = .ok (.l2i, 1) := by decide +kernel
theorem dX2_fill_53 : decode cX2_fill 53 = .ok (.aload_n 0, 1) := by decide +kernel
theorem dX2_fill_54 : decode cX2_fill 54 = .ok (.iload_n 2, 1) := by decide +kernel
theorem dX2_fill_55 : decode cX2_fill 55 = .ok (.iconst 2, 1) := by decide +kernel
theorem dX2_fill_56 : decode cX2_fill 56 = .ok (.invokevirtual 75, 3) := by decide +kernel
theorem dX2_fill_59 : decode cX2_fill 59 = .ok (.l2i, 1) := by decide +kernel
theorem dX2_fill_60 : decode cX2_fill 60 = .ok (.aload_n 0, 1) := by decide +kernel
theorem dX2_fill_61 : decode cX2_fill 61 = .ok (.iload_n 2, 1) := by decide +kernel
theorem dX2_fill_62 : decode cX2_fill 62 = .ok (.iconst 3, 1) := by decide +kernel
theorem dX2_fill_63 : decode cX2_fill 63 = .ok (.invokevirtual 75, 3) := by decide +kernel
theorem dX2_fill_66 : decode cX2_fill 66 = .ok (.l2i, 1) := by decide +kernel
theorem dX2_fill_67 : decode cX2_fill 67 = .ok (.aload_n 0, 1) := by decide +kernel
theorem dX2_fill_68 : decode cX2_fill 68 = .ok (.iload_n 2, 1) := by decide +kernel
theorem dX2_fill_69 : decode cX2_fill 69 = .ok (.iconst 4, 1) := by decide +kernel
theorem dX2_fill_70 : decode cX2_fill 70 = .ok (.invokevirtual 75, 3) := by decide +kernel
theorem dX2_fill_73 : decode cX2_fill 73 = .ok (.l2i, 1) := by decide +kernel
theorem dX2_fill_74 : decode cX2_fill 74 = .ok (.invokevirtual 93, 3) := by decide +kernel
theorem dX2_fill_77 : decode cX2_fill 77 = .ok (.iinc 2 1, 3) := by decide +kernel
theorem dX2_fill_80 : decode cX2_fill 80 = .ok (.goto (-50), 3) := by decide +kernel
theorem dX2_fill_83 : decode cX2_fill 83 = .ok (.return_, 1) := by decide +kernel
theorem dX3_init_0 : decode cX3_init 0 = .ok (.aload_n 0, 1) := by decide +kernel
theorem dX3_init_1 : decode cX3_init 1 = .ok (.invokespecial 3, 3) := by decide +kernel
theorem dX3_init_4 : decode cX3_init 4 = .ok (.aload_n 0, 1) := by decide +kernel
theorem dX3_init_5 : decode cX3_init 5 = .ok (.new 9, 3) := by decide +kernel
theorem dX3_init_8 : decode cX3_init 8 = .ok (.dup, 1) := by decide +kernel
theorem dX3_init_9 : decode cX3_init 9 = .ok (.invokespecial 11, 3) := by decide +kernel
theorem dX3_init_12 : decode cX3_init 12 = .ok (.putfield 12, 3) := by decide +kernel
theorem dX3_init_15 : decode cX3_init 15 = .ok (.aload_n 0, 1) := by decide +kernel
theorem dX3_init_16 : decode cX3_init 16 = .ok (.bipush 60, 2) := by decide +kernel
theorem dX3_init_18 : decode cX3_init 18 = .ok (.newarray .long, 2) := by decide +kernel
theorem dX3_init_20 : decode cX3_init 20 = .ok (.putfield 18, 3) := by decide +kernel
theorem dX3_init_23 : decode cX3_init 23 = .ok (.aload_n 0, 1) := by decide +kernel
theorem dX3_init_24 : decode cX3_init 24 = .ok (.bipush 60, 2) := by decide +kernel
theorem dX3_init_26 : decode cX3_init 26 = .ok (.newarray .int, 2) := by decide +kernel
theorem dX3_init_28 : decode cX3_init 28 = .ok (.putfield 22, 3) := by decide +kernel
theorem dX3_init_31 : decode cX3_init 31 = .ok (.aload_n 0, 1) := by decide +kernel
theorem dX3_init_32 : decode cX3_init 32 = .ok (.bipush 60, 2) := by decide +kernel
theorem dX3_init_34 : decode cX3_init 34 = .ok (.newarray .int, 2) := by decide +kernel
theorem dX3_init_36 : decode cX3_init 36 = .ok (.putfield 26, 3) := by decide +kernel
theorem dX3_init_39 : decode cX3_init 39 = .ok (.aload_n 0, 1) := by decide +kernel
theorem dX3_init_40 : decode cX3_init 40 = .ok (.bipush 60, 2) := by decide +kernel
theorem dX3_init_42 : decode cX3_init 42 = .ok (.newarray .int, 2) := by decide +kernel
theorem dX3_init_44 : decode cX3_init 44 = .ok (.putfield 29, 3) := by decide +kernel
theorem dX3_init_47 : decode cX3_init 47 = .ok (.aload_n 0, 1) := by decide +kernel
theorem dX3_init_48 : decode cX3_init 48 = .ok (.bipush 60, 2) := by decide +kernel
theorem dX3_init_50 : decode cX3_init 50 = .ok (.newarray .int, 2) := by decide +kernel
theorem dX3_init_52 : decode cX3_init 52 = .ok (.putfield 32, 3) := by decide +kernel
theorem dX3_init_55 : decode cX3_init 55 = .ok (.aload_n 0, 1) := by decide +kernel
theorem dX3_init_56 : decode cX3_init 56 = .ok (.bipush 60, 2) := by decide +kernel
theorem dX3_init_58 : decode cX3_init 58 = .ok (.newarray .int, 2) := by decide +kernel
theorem dX3_init_60 : decode cX3_init 60 = .ok (.putfield 35, 3) := by decide +kernel
theorem dX3_init_63 : decode cX3_init 63 = .ok (.return_, 1) := by decide +kernel
theorem dX3_size_0 : decode cX3_size 0 = .ok (.aload_n 0, 1) := by decide +kernel
theorem dX3_size_1 : decode cX3_size 1 = .ok (.getfield 38, 3) := by decide +kernel
theorem dX3_size_4 : decode cX3_size 4 = .ok (.ireturn, 1) := by decide +kernel
theorem dX3_isComplete_0 : decode cX3_isComplete 0 = .ok (.aload_n 0, 1) := by decide +kernel
theorem dX3_isComplete_1 : decode cX3_isComplete 1 = .ok (.getfield 38, 3) := by decide +kernel
theorem dX3_isComplete_4 : decode cX3_isComplete 4 = .ok (.aload_n 0, 1) := by decide +kernel
theorem dX3_isComplete_5 : decode cX3_isComplete 5 = .ok (.getfield 42, 3) := by decide +kernel
theorem dX3_isComplete_8 : decode cX3_isComplete 8 = .ok (.if_icmp .ne 7, 3) := by decide +kernel
theorem dX3_isComplete_11 : decode cX3_isComplete 11 = .ok (.iconst 1, 1) := by decide +kernel
theorem dX3_isComplete_12 : decode cX3_isComplete 12 = .ok (.goto 4, 3) := by decide +kernel
theorem dX3_isComplete_15 : decode cX3_isComplete 15 = .ok (.iconst 0, 1) := by decide +kernel
theorem dX3_isComplete_16 : decode cX3_isComplete 16 = .ok (.ireturn, 1) := by decide +kernel
theorem dX3_find_0 : decode cX3_find 0 = .ok (.aload_n 0, 1) := by decide +kernel
theorem dX3_find_1 : decode cX3_find 1 = .ok (.aload_n 1, 1) := by decide +kernel
theorem dX3_find_2 : decode cX3_find 2 = .ok (.putfield 12, 3) := by decide +kernel
theorem dX3_find_5 : decode cX3_find 5 = .ok (.aload_n 0, 1) := by decide +kernel
theorem dX3_find_6 : decode cX3_find 6 = .ok (.iconst 0, 1) := by decide +kernel
theorem dX3_find_7 : decode cX3_find 7 = .ok (.putfield 42, 3) := by decide +kernel
theorem dX3_find_10 : decode cX3_find 10 = .ok (.aload_n 0, 1) := by decide +kernel
theorem dX3_find_11 : decode cX3_find 11 = .ok (.iconst 0, 1) := by decide +kernel
theorem dX3_find_12 : decode cX3_find 12 = .ok (.putfield 38, 3) := by decide +kernel
theorem dX3_find_15 : decode cX3_find 15 = .ok (.aload_n 1, 1) := by decide +kernel
theorem dX3_find_16 : decode cX3_find 16 = .ok (.invokevirtual 45, 3) := by decide +kernel
theorem dX3_find_19 : decode cX3_find 19 = .ok (.bipush 60, 2) := by decide +kernel
theorem dX3_find_21 : decode cX3_find 21 = .ok (.invokestatic 49, 3) := by decide +kernel
theorem dX3_find_24 : decode cX3_find 24 = .ok (.istore_n 2, 1) := by decide +kernel
theorem dX3_find_25 : decode cX3_find 25 = .ok (.iconst 0, 1) := by decide +kernel
theorem dX3_find_26 : decode cX3_find 26 = .ok (.istore_n 3, 1) := by decide +kernel
theorem dX3_find_27 : decode cX3_find 27 = .ok (.iload_n 3, 1) := by decide +kernel
theorem dX3_find_28 : decode cX3_find 28 = .ok (.iload_n 2, 1) := by decide +kernel
theorem dX3_find_29 : decode cX3_find 29 = .ok (.if_icmp .ge 55, 3) := by decide +kernel
theorem dX3_find_32 : decode cX3_find 32 = .ok (.aload_n 0, 1) := by decide +kernel
theorem dX3_find_33 : decode cX3_find 33 = .ok (.getfield 18, 3) := by decide +kernel
theorem dX3_find_36 : decode cX3_find 36 = .ok (.iload_n 3, 1) := by decide +kernel
theorem dX3_find_37 : decode cX3_find 37 = .ok (.aload_n 1, 1) := by decide +kernel
theorem dX3_find_38 : decode cX3_find 38 = .ok (.iload_n 3, 1) := by decide +kernel
theorem dX3_find_39 : decode cX3_find 39 = .ok (.invokevirtual 55, 3) := by decide +kernel
theorem dX3_find_42 : decode cX3_find 42 = .ok (.lastore, 1) := by decide +kernel
theorem dX3_find_43 : decode cX3_find 43 = .ok (.aload_n 0, 1) := by decide +kernel
theorem dX3_find_44 : decode cX3_find 44 = .ok (.getfield 26, 3) := by decide +kernel
theorem dX3_find_47 : decode cX3_find 47 = .ok (.iload_n 3, 1) := by decide +kernel
theorem dX3_find_48 : decode cX3_find 48 = .ok (.iconst (-1), 1) := by decide +kernel
theorem dX3_find_49 : decode cX3_find 49 = .ok (.iastore, 1) := by decide +kernel
theorem dX3_find_50 : decode cX3_find 50 = .ok (.aload_n 0, 1) := by decide +kernel
theorem dX3_find_51 : decode cX3_find 51 = .ok (.getfield 32, 3) := by decide +kernel
theorem dX3_find_54 : decode cX3_find 54 = .ok (.iload_n 3, 1) := by decide +kernel
theorem dX3_find_55 : decode cX3_find 55 = .ok (.iconst (-1), 1) := by decide +kernel
theorem dX3_find_56 : decode cX3_find 56 = .ok (.iastore, 1) := by decide +kernel
theorem dX3_find_57 : decode cX3_find 57 = .ok (.aload_n 1, 1) := by decide +kernel
theorem dX3_find_58 : decode cX3_find 58 = .ok (.getfield 59, 3) := by decide +kernel
theorem dX3_find_61 : decode cX3_find 61 = .ok (.iconst 3, 1) := by decide +kernel
theorem dX3_find_62 : decode cX3_find 62 = .ok (.if_icmp .ne 11, 3) := by decide +kernel
theorem dX3_find_65 : decode cX3_find 65 = .ok (.aload_n 1, 1) := by decide +kernel
theorem dX3_find_66 : decode cX3_find 66 = .ok (.iload_n 3, 1) := by decide +kernel
theorem dX3_find_67 : decode cX3_find 67 = .ok (.invokevirtual 62, 3) := by decide +kernel
theorem dX3_find_70 : decode cX3_find 70 = .ok (.ifCond .eq 8, 3) := by decide +kernel
theorem dX3_find_73 : decode cX3_find 73 = .ok (.aload_n 0, 1) := by decide +kernel
theorem dX3_find_74 : decode cX3_find 74 = .ok (.iload_n 3, 1) := by decide +kernel
theorem dX3_find_75 : decode cX3_find 75 = .ok (.invokevirtual 66, 3) := by decide +kernel
theorem dX3_find_78 : decode cX3_find 78 = .ok (.iinc 3 1, 3) := by decide +kernel
theorem dX3_find_81 : decode cX3_find 81 = .ok (.goto (-54), 3) := by decide +kernel
theorem dX3_find_84 : decode cX3_find 84 = .ok (.aload_n 0, 1) := by decide +kernel
theorem dX3_find_85 : decode cX3_find 85 = .ok (.invokevirtual 70, 3) := by decide +kernel
theorem dX3_find_88 : decode cX3_find 88 = .ok (.return_, 1) := by decide +kernel
theorem dX3_insert_0 : decode cX3_insert 0 = .ok (.aload_n 0, 1) := by decide +kernel
theorem dX3_insert_1 : decode cX3_insert 1 = .ok (.getfield 42, 3) := by decide +kernel
theorem dX3_insert_4 : decode cX3_insert 4 = .ok (.bipush 60, 2) := by decide +kernel
theorem dX3_insert_6 : decode cX3_insert 6 = .ok (.if_icmp .lt 4, 3) := by decide +kernel
theorem dX3_insert_9 : decode cX3_insert 9 = .ok (.return_, 1) := by decide +kernel
theorem dX3_insert_10 : decode cX3_insert 10 = .ok (.aload_n 0, 1) := by decide +kernel
theorem dX3_insert_11 : decode cX3_insert 11 = .ok (.getfield 42, 3) := by decide +kernel
theorem dX3_insert_14 : decode cX3_insert 14 = .ok (.istore_n 2, 1) := by decide +kernel
theorem dX3_insert_15 : decode cX3_insert 15 = .ok (.iload_n 2, 1) := by decide +kernel
theorem dX3_insert_16 : decode cX3_insert 16 = .ok (.ifCond .le 39, 3) := by decide +kernel
theorem dX3_insert_19 : decode cX3_insert 19 = .ok (.aload_n 0, 1) := by decide +kernel
theorem dX3_insert_20 : decode cX3_insert 20 = .ok (.iload_n 1, 1) := by decide +kernel
theorem dX3_insert_21 : decode cX3_insert 21 = .ok (.aload_n 0, 1) := by decide +kernel
theorem dX3_insert_22 : decode cX3_insert 22 = .ok (.getfield 22, 3) := by decide +kernel
theorem dX3_insert_25 : decode cX3_insert 25 = .ok (.iload_n 2, 1) := by decide +kernel
theorem dX3_insert_26 : decode cX3_insert 26 = .ok (.iconst 1, 1) := by decide +kernel
theorem dX3_insert_27 : decode cX3_insert 27 = .ok (.isub, 1) := by decide +kernel
theorem dX3_insert_28 : decode cX3_insert 28 = .ok (.iaload, 1) := by decide +kernel
theorem dX3_insert_29 : decode cX3_insert 29 = .ok (.invokevirtual 73, 3) := by decide +kernel
theorem dX3_insert_32 : decode cX3_insert 32 = .ok (.ifCond .eq 23, 3) := by decide +kernel
theorem dX3_insert_35 : decode cX3_insert 35 = .ok (.aload_n 0, 1) := by decide +kernel
theorem dX3_insert_36 : decode cX3_insert 36 = .ok (.getfield 22, 3) := by decide +kernel
theorem dX3_insert_39 : decode cX3_insert 39 = .ok (.iload_n 2, 1) := by decide +kernel
theorem dX3_insert_40 : decode cX3_insert 40 = .ok (.aload_n 0, 1) := by decide +kernel
theorem dX3_insert_41 : decode cX3_insert 41 = .ok (.getfield 22, 3) := by decide +kernel
theorem dX3_insert_44 : decode cX3_insert 44 = .ok (.iload_n 2, 1) := by decide +kernel
theorem dX3_insert_45 : decode cX3_insert 45 = .ok (.iconst 1, 1) := by decide +kernel
theorem dX3_insert_46 : decode cX3_insert 46 = .ok (.isub, 1) := by decide +kernel
theorem dX3_insert_47 : decode cX3_insert 47 = .ok (.iaload, 1) := by decide +kernel
theorem dX3_insert_48 : decode cX3_insert 48 = .ok (.iastore, 1) := by decide +kernel
theorem dX3_insert_49 : decode cX3_insert 49 = .ok (.iinc 2 (-1), 3) := by decide +kernel
theorem dX3_insert_52 : decode cX3_insert 52 = .ok (.goto (-37), 3) := by decide +kernel
theorem dX3_insert_55 : decode cX3_insert 55 = .ok (.aload_n 0, 1) := by decide +kernel
theorem dX3_insert_56 : decode cX3_insert 56 = .ok (.getfield 22, 3) := by decide +kernel
theorem dX3_insert_59 : decode cX3_insert 59 = .ok (.iload_n 2, 1) := by decide +kernel
theorem dX3_insert_60 : decode cX3_insert 60 = .ok (.iload_n 1, 1) := by decide +kernel
theorem dX3_insert_61 : decode cX3_insert 61 = .ok (.iastore, 1) := by decide +kernel
theorem dX3_insert_62 : decode cX3_insert 62 = .ok (.aload_n 0, 1) := by decide +kernel
theorem dX3_insert_63 : decode cX3_insert 63 = .ok (.dup, 1) := by decide +kernel
theorem dX3_insert_64 : decode cX3_insert 64 = .ok (.getfield 42, 3) := by decide +kernel
theorem dX3_insert_67 : decode cX3_insert 67 = .ok (.iconst 1, 1) := by decide +kernel
theorem dX3_insert_68 : decode cX3_insert 68 = .ok (.iadd, 1) := by decide +kernel
theorem dX3_insert_69 : decode cX3_insert 69 = .ok (.putfield 42, 3) := by decide +kernel
theorem dX3_insert_72 : decode cX3_insert 72 = .ok (.return_, 1) := by decide +kernel
theorem dX3_comesBefore_0 : decode cX3_comesBefore 0 = .ok (.aload_n 0, 1) := by decide +kernel
theorem dX3_comesBefore_1 : decode cX3_comesBefore 1 = .ok (.getfield 12, 3) := by decide +kernel
theorem dX3_comesBefore_4 : decode cX3_comesBefore 4 = .ok (.iload_n 1, 1) := by decide +kernel
theorem dX3_comesBefore_5 : decode cX3_comesBefore 5 = .ok (.iconst 2, 1) := by decide +kernel
theorem dX3_comesBefore_6 : decode cX3_comesBefore 6 = .ok (.invokevirtual 77, 3) := by decide +kernel
theorem dX3_comesBefore_9 : decode cX3_comesBefore 9 = .ok (.istore_n 3, 1) := by decide +kernel
theorem dX3_comesBefore_10 : decode cX3_comesBefore 10 = .ok (.aload_n 0, 1) := by decide +kernel
theorem dX3_comesBefore_11 : decode cX3_comesBefore 11 = .ok (.getfield 12, 3) := by decide +kernel
theorem dX3_comesBefore_14 : decode cX3_comesBefore 14 = .ok (.iload_n 2, 1) := by decide +kernel
theorem dX3_comesBefore_15 : decode cX3_comesBefore 15 = .ok (.iconst 2, 1) := by decide +kernel
theorem dX3_comesBefore_16 : decode cX3_comesBefore 16 = .ok (.invokevirtual 77, 3) := by decide +kernel
theorem dX3_comesBefore_19 : decode cX3_comesBefore 19 = .ok (.istore 4, 2) := by decide +kernel
theorem dX3_comesBefore_21 : decode cX3_comesBefore 21 = .ok (.aload_n 0, 1) := by decide +kernel
theorem dX3_comesBefore_22 : decode cX3_comesBefore 22 = .ok (.getfield 12, 3) := by decide +kernel
theorem dX3_comesBefore_25 : decode cX3_comesBefore 25 = .ok (.getfield 59, 3) := by decide +kernel
theorem dX3_comesBefore_28 : decode cX3_comesBefore 28 = .ok (.iconst 2, 1) := by decide +kernel
theorem dX3_comesBefore_29 : decode cX3_comesBefore 29 = .ok (.if_icmp .ne 21, 3) := by decide +kernel
theorem dX3_comesBefore_32 : decode cX3_comesBefore 32 = .ok (.iload_n 3, 1) := by decide +kernel
theorem dX3_comesBefore_33 : decode cX3_comesBefore 33 = .ok (.iload 4, 2) := by decide +kernel
theorem dX3_comesBefore_35 : decode cX3_comesBefore 35 = .ok (.if_icmp .eq 15, 3) := by decide +kernel
theorem dX3_comesBefore_38 : decode cX3_comesBefore 38 = .ok (.iload_n 3, 1) := by decide +kernel
theorem dX3_comesBefore_39 : decode cX3_comesBefore 39 = .ok (.iload 4, 2) := by decide +kernel
theorem dX3_comesBefore_41 : decode cX3_comesBefore 41 = .ok (.if_icmp .ge 7, 3) := by decide +kernel
theorem dX3_comesBefore_44 : decode cX3_comesBefore 44 = .ok (.iconst 1, 1) := by decide +kernel
theorem dX3_comesBefore_45 : decode cX3_comesBefore 45 = .ok (.goto 4, 3) := by decide +kernel
theorem dX3_comesBefore_48 : decode cX3_comesBefore 48 = .ok (.iconst 0, 1) := by decide +kernel
theorem dX3_comesBefore_49 : decode cX3_comesBefore 49 = .ok (.ireturn, 1) := by decide +kernel
theorem dX3_comesBefore_50 : decode cX3_comesBefore 50 = .ok (.aload_n 0, 1) := by decide +kernel
theorem dX3_comesBefore_51 : decode cX3_comesBefore 51 = .ok (.getfield 12, 3) := by decide +kernel
theorem dX3_comesBefore_54 : decode cX3_comesBefore 54 = .ok (.getfield 59, 3) := by decide +kernel
theorem dX3_comesBefore_57 : decode cX3_comesBefore 57 = .ok (.iconst 1, 1) := by decide +kernel
theorem dX3_comesBefore_58 : decode cX3_comesBefore 58 = .ok (.if_icmp .ne 45, 3) := by decide +kernel
theorem dX3_comesBefore_61 : decode cX3_comesBefore 61 = .ok (.aload_n 0, 1) := by decide +kernel
theorem dX3_comesBefore_62 : decode cX3_comesBefore 62 = .ok (.iload_n 1, 1) := by decide +kernel
theorem dX3_comesBefore_63 : decode cX3_comesBefore 63 = .ok (.invokevirtual 80, 3) := by decide +kernel
theorem dX3_comesBefore_66 : decode cX3_comesBefore 66 = .ok (.aload_n 0, 1) := by decide +kernel
theorem dX3_comesBefore_67 : decode cX3_comesBefore 67 = .ok (.getfield 12, 3) := by decide +kernel
theorem dX3_comesBefore_70 : decode cX3_comesBefore 70 = .ok (.iload_n 2, 1) := by decide +kernel
theorem dX3_comesBefore_71 : decode cX3_comesBefore 71 = .ok (.iconst 3, 1) := by decide +kernel
theorem dX3_comesBefore_72 : decode cX3_comesBefore 72 = .ok (.invokevirtual 77, 3) := by decide +kernel
theorem dX3_comesBefore_75 : decode cX3_comesBefore 75 = .ok (.i2l, 1) := by decide +kernel
theorem dX3_comesBefore_76 : decode cX3_comesBefore 76 = .ok (.lmul, 1) := by decide +kernel
theorem dX3_comesBefore_77 : decode cX3_comesBefore 77 = .ok (.aload_n 0, 1) := by decide +kernel
theorem dX3_comesBefore_78 : decode cX3_comesBefore 78 = .ok (.iload_n 2, 1) := by decide +kernel
theorem dX3_comesBefore_79 : decode cX3_comesBefore 79 = .ok (.invokevirtual 80, 3) := by decide +kernel
theorem dX3_comesBefore_82 : decode cX3_comesBefore 82 = .ok (.aload_n 0, 1) := by decide +kernel
theorem dX3_comesBefore_83 : decode cX3_comesBefore 83 = .ok (.getfield 12, 3) := by decide +kernel
theorem dX3_comesBefore_86 : decode cX3_comesBefore 86 = .ok (.iload_n 1, 1) := by decide +kernel
theorem dX3_comesBefore_87 : decode cX3_comesBefore 87 = .ok (.iconst 3, 1) := by decide +kernel
theorem dX3_comesBefore_88 : decode cX3_comesBefore 88 = .ok (.invokevirtual 77, 3) := by decide +kernel
theorem dX3_comesBefore_91 : decode cX3_comesBefore 91 = .ok (.i2l, 1) := by decide +kernel
theorem dX3_comesBefore_92 : decode cX3_comesBefore 92 = .ok (.lmul, 1) := by decide +kernel
theorem dX3_comesBefore_93 : decode cX3_comesBefore 93 = .ok (.lcmp, 1) := by decide +kernel
theorem dX3_comesBefore_94 : decode cX3_comesBefore 94 = .ok (.ifCond .ge 7, 3) := by decide +kernel
theorem dX3_comesBefore_97 : decode cX3_comesBefore 97 = .ok (.iconst 1, 1) := by decide +kernel
theorem dX3_comesBefore_98 : decode cX3_comesBefore 98 = .ok (.goto 4, 3) := by decide +kernel
theorem dX3_comesBefore_101 : decode cX3_comesBefore 101 = .ok (.iconst 0, 1) := by decide +kernel
theorem dX3_comesBefore_102 : decode cX3_comesBefore 102 = .ok (.ireturn, 1) := by decide +kernel
theorem dX3_comesBefore_103 : decode cX3_comesBefore 103 = .ok (.aload_n 0, 1) := by decide +kernel
theorem dX3_comesBefore_104 : decode cX3_comesBefore 104 = .ok (.iload_n 1, 1) := by decide +kernel
theorem dX3_comesBefore_105 : decode cX3_comesBefore 105 = .ok (.invokevirtual 80, 3) := by decide +kernel
theorem dX3_comesBefore_108 : decode cX3_comesBefore 108 = .ok (.aload_n 0, 1) := by decide +kernel
theorem dX3_comesBefore_109 : decode cX3_comesBefore 109 = .ok (.iload_n 2, 1) := by decide +kernel
theorem dX3_comesBefore_110 : decode cX3_comesBefore 110 = .ok (.invokevirtual 80, 3) := by decide +kernel
theorem dX3_comesBefore_113 : decode cX3_comesBefore 113 = .ok (.lcmp, 1) := by decide +kernel
theorem dX3_comesBefore_114 : decode cX3_comesBefore 114 = .ok (.ifCond .ge 7, 3) := by decide +kernel
theorem dX3_comesBefore_117 : decode cX3_comesBefore 117 = .ok (.iconst 1, 1) := by decide +kernel
theorem dX3_comesBefore_118 : decode cX3_comesBefore 118 = .ok (.goto 4, 3) := by decide +kernel
theorem dX3_comesBefore_121 : decode cX3_comesBefore 121 = .ok (.iconst 0, 1) := by decide +kernel
theorem dX3_comesBefore_122 : decode cX3_comesBefore 122 = .ok (.ireturn, 1) := by decide +kernel
theorem dX3_choose_0 : decode cX3_choose 0 = .ok (.iconst (-1), 1) := by decide +kernel
theorem dX3_choose_1 : decode cX3_choose 1 = .ok (.istore_n 1, 1) := by decide +kernel
theorem dX3_choose_2 : decode cX3_choose 2 = .ok (.iconst 0, 1) := by decide +kernel
theorem dX3_choose_3 : decode cX3_choose 3 = .ok (.istore_n 2, 1) := by decide +kernel
theorem dX3_choose_4 : decode cX3_choose 4 = .ok (.iload_n 2, 1) := by decide +kernel
theorem dX3_choose_5 : decode cX3_choose 5 = .ok (.aload_n 0, 1) := by decide +kernel
theorem dX3_choose_6 : decode cX3_choose 6 = .ok (.getfield 42, 3) := by decide +kernel
theorem dX3_choose_9 : decode cX3_choose 9 = .ok (.if_icmp .ge 83, 3) := by decide +kernel
theorem dX3_choose_12 : decode cX3_choose 12 = .ok (.aload_n 0, 1) := by decide +kernel
theorem dX3_choose_13 : decode cX3_choose 13 = .ok (.iload_n 2, 1) := by decide +kernel
theorem dX3_choose_14 : decode cX3_choose 14 = .ok (.invokevirtual 81, 3) := by decide +kernel
theorem dX3_choose_17 : decode cX3_choose 17 = .ok (.istore_n 3, 1) := by decide +kernel
theorem dX3_choose_18 : decode cX3_choose 18 = .ok (.iload_n 2, 1) := by decide +kernel
theorem dX3_choose_19 : decode cX3_choose 19 = .ok (.ifCond .le 45, 3) := by decide +kernel
theorem dX3_choose_22 : decode cX3_choose 22 = .ok (.aload_n 0, 1) := by decide +kernel
theorem dX3_choose_23 : decode cX3_choose 23 = .ok (.getfield 12, 3) := by decide +kernel
theorem dX3_choose_26 : decode cX3_choose 26 = .ok (.getfield 59, 3) := by decide +kernel
theorem dX3_choose_29 : decode cX3_choose 29 = .ok (.iconst 2, 1) := by decide +kernel
theorem dX3_choose_30 : decode cX3_choose 30 = .ok (.if_icmp .ne 34, 3) := by decide +kernel
theorem dX3_choose_33 : decode cX3_choose 33 = .ok (.aload_n 0, 1) := by decide +kernel
theorem dX3_choose_34 : decode cX3_choose 34 = .ok (.getfield 12, 3) := by decide +kernel
theorem dX3_choose_37 : decode cX3_choose 37 = .ok (.iload_n 3, 1) := by decide +kernel
theorem dX3_choose_38 : decode cX3_choose 38 = .ok (.iconst 2, 1) := by decide +kernel
theorem dX3_choose_39 : decode cX3_choose 39 = .ok (.invokevirtual 77, 3) := by decide +kernel
theorem dX3_choose_42 : decode cX3_choose 42 = .ok (.aload_n 0, 1) := by decide +kernel
theorem dX3_choose_43 : decode cX3_choose 43 = .ok (.getfield 12, 3) := by decide +kernel
theorem dX3_choose_46 : decode cX3_choose 46 = .ok (.aload_n 0, 1) := by decide +kernel
theorem dX3_choose_47 : decode cX3_choose 47 = .ok (.iload_n 2, 1) := by decide +kernel
theorem dX3_choose_48 : decode cX3_choose 48 = .ok (.iconst 1, 1) := by decide +kernel
theorem dX3_choose_49 : decode cX3_choose 49 = .ok (.isub, 1) := by decide +kernel
theorem dX3_choose_50 : decode cX3_choose 50 = .ok (.invokevirtual 81, 3) := by decide +kernel
theorem dX3_choose_53 : decode cX3_choose 53 = .ok (.iconst 2, 1) := by decide +kernel
theorem dX3_choose_54 : decode cX3_choose 54 = .ok (.invokevirtual 77, 3) := by decide +kernel
theorem dX3_choose_57 : decode cX3_choose 57 = .ok (.if_icmp .eq 7, 3) := by decide +kernel
theorem dX3_choose_60 : decode cX3_choose 60 = .ok (.iconst 1, 1) := by decide +kernel
theorem dX3_choose_61 : decode cX3_choose 61 = .ok (.goto 4, 3) := by decide +kernel
theorem dX3_choose_64 : decode cX3_choose 64 = .ok (.iconst 0, 1) := by decide +kernel
theorem dX3_choose_65 : decode cX3_choose 65 = .ok (.istore 4, 2) := by decide +kernel
theorem dX3_choose_67 : decode cX3_choose 67 = .ok (.iload 4, 2) := by decide +kernel
theorem dX3_choose_69 : decode cX3_choose 69 = .ok (.ifCond .eq 7, 3) := by decide +kernel
theorem dX3_choose_72 : decode cX3_choose 72 = .ok (.iconst 0, 1) := by decide +kernel
theorem dX3_choose_73 : decode cX3_choose 73 = .ok (.goto 6, 3) := by decide +kernel
theorem dX3_choose_76 : decode cX3_choose 76 = .ok (.iload_n 1, 1) := by decide +kernel
theorem dX3_choose_77 : decode cX3_choose 77 = .ok (.iconst 1, 1) := by decide +kernel
theorem dX3_choose_78 : decode cX3_choose 78 = .ok (.iadd, 1) := by decide +kernel
theorem dX3_choose_79 : decode cX3_choose 79 = .ok (.istore_n 1, 1) := by decide +kernel
theorem dX3_choose_80 : decode cX3_choose 80 = .ok (.aload_n 0, 1) := by decide +kernel
theorem dX3_choose_81 : decode cX3_choose 81 = .ok (.iload_n 3, 1) := by decide +kernel
theorem dX3_choose_82 : decode cX3_choose 82 = .ok (.iload_n 1, 1) := by decide +kernel
theorem dX3_choose_83 : decode cX3_choose 83 = .ok (.invokevirtual 85, 3) := by decide +kernel
theorem dX3_choose_86 : decode cX3_choose 86 = .ok (.iinc 2 1, 3) := by decide +kernel
theorem dX3_choose_89 : decode cX3_choose 89 = .ok (.goto (-85), 3) := by decide +kernel
theorem dX3_choose_92 : decode cX3_choose 92 = .ok (.return_, 1) := by decide +kernel
theorem dX3_place_0 : decode cX3_place 0 = .ok (.iload_n 1, 1) := by decide +kernel
theorem dX3_place_1 : decode cX3_place 1 = .ok (.ifCond .lt 18, 3) := by decide +kernel
theorem dX3_place_4 : decode cX3_place 4 = .ok (.iload_n 1, 1) := by decide +kernel
theorem dX3_place_5 : decode cX3_place 5 = .ok (.bipush 60, 2) := by decide +kernel
theorem dX3_place_7 : decode cX3_place 7 = .ok (.if_icmp .ge 12, 3) := by decide +kernel
theorem dX3_place_10 : decode cX3_place 10 = .ok (.aload_n 0, 1) := by decide +kernel
theorem dX3_place_11 : decode cX3_place 11 = .ok (.getfield 38, 3) := by decide +kernel
theorem dX3_place_14 : decode cX3_place 14 = .ok (.bipush 60, 2) := by decide +kernel
theorem dX3_place_16 : decode cX3_place 16 = .ok (.if_icmp .lt 4, 3) := by decide +kernel
theorem dX3_place_19 : decode cX3_place 19 = .ok (.return_, 1) := by decide +kernel
theorem dX3_place_20 : decode cX3_place 20 = .ok (.aload_n 0, 1) := by decide +kernel
theorem dX3_place_21 : decode cX3_place 21 = .ok (.getfield 26, 3) := by decide +kernel
theorem dX3_place_24 : decode cX3_place 24 = .ok (.iload_n 1, 1) := by decide +kernel
theorem dX3_place_25 : decode cX3_place 25 = .ok (.iload_n 2, 1) := by decide +kernel
theorem dX3_place_26 : decode cX3_place 26 = .ok (.iastore, 1) := by decide +kernel
theorem dX3_place_27 : decode cX3_place 27 = .ok (.iload_n 2, 1) := by decide +kernel
theorem dX3_place_28 : decode cX3_place 28 = .ok (.aload_n 0, 1) := by decide +kernel
theorem dX3_place_29 : decode cX3_place 29 = .ok (.getfield 12, 3) := by decide +kernel
theorem dX3_place_32 : decode cX3_place 32 = .ok (.iload_n 1, 1) := by decide +kernel
theorem dX3_place_33 : decode cX3_place 33 = .ok (.invokevirtual 89, 3) := by decide +kernel
theorem dX3_place_36 : decode cX3_place 36 = .ok (.if_icmp .ge 33, 3) := by decide +kernel
theorem dX3_place_39 : decode cX3_place 39 = .ok (.aload_n 0, 1) := by decide +kernel
theorem dX3_place_40 : decode cX3_place 40 = .ok (.getfield 29, 3) := by decide +kernel
theorem dX3_place_43 : decode cX3_place 43 = .ok (.aload_n 0, 1) := by decide +kernel
theorem dX3_place_44 : decode cX3_place 44 = .ok (.getfield 38, 3) := by decide +kernel
theorem dX3_place_47 : decode cX3_place 47 = .ok (.iload_n 1, 1) := by decide +kernel
theorem dX3_place_48 : decode cX3_place 48 = .ok (.iastore, 1) := by decide +kernel
theorem dX3_place_49 : decode cX3_place 49 = .ok (.aload_n 0, 1) := by decide +kernel
theorem dX3_place_50 : decode cX3_place 50 = .ok (.getfield 32, 3) := by decide +kernel
theorem dX3_place_53 : decode cX3_place 53 = .ok (.iload_n 1, 1) := by decide +kernel
theorem dX3_place_54 : decode cX3_place 54 = .ok (.aload_n 0, 1) := by decide +kernel
theorem dX3_place_55 : decode cX3_place 55 = .ok (.getfield 38, 3) := by decide +kernel
theorem dX3_place_58 : decode cX3_place 58 = .ok (.iastore, 1) := by decide +kernel
theorem dX3_place_59 : decode cX3_place 59 = .ok (.aload_n 0, 1) := by decide +kernel
theorem dX3_place_60 : decode cX3_place 60 = .ok (.dup, 1) := by decide +kernel
theorem dX3_place_61 : decode cX3_place 61 = .ok (.getfield 38, 3) := by decide +kernel
theorem dX3_place_64 : decode cX3_place 64 = .ok (.iconst 1, 1) := by decide +kernel
theorem dX3_place_65 : decode cX3_place 65 = .ok (.iadd, 1) := by decide +kernel
theorem dX3_place_66 : decode cX3_place 66 = .ok (.putfield 38, 3) := by decide +kernel
theorem dX3_place_69 : decode cX3_place 69 = .ok (.return_, 1) := by decide +kernel
theorem dX3_mixAt_0 : decode cX3_mixAt 0 = .ok (.iload_n 1, 1) := by decide +kernel
theorem dX3_mixAt_1 : decode cX3_mixAt 1 = .ok (.ifCond .lt 9, 3) := by decide +kernel
theorem dX3_mixAt_4 : decode cX3_mixAt 4 = .ok (.iload_n 1, 1) := by decide +kernel
theorem dX3_mixAt_5 : decode cX3_mixAt 5 = .ok (.bipush 60, 2) := by decide +kernel
theorem dX3_mixAt_7 : decode cX3_mixAt 7 = .ok (.if_icmp .lt 7, 3) := by decide +kernel
theorem dX3_mixAt_10 : decode cX3_mixAt 10 = .ok (.lconst 1, 1) := by decide +kernel
theorem dX3_mixAt_11 : decode cX3_mixAt 11 = .ok (.goto 9, 3) := by decide +kernel
theorem dX3_mixAt_14 : decode cX3_mixAt 14 = .ok (.aload_n 0, 1) := by decide +kernel
theorem dX3_mixAt_15 : decode cX3_mixAt 15 = .ok (.getfield 18, 3) := by decide +kernel
theorem dX3_mixAt_18 : decode cX3_mixAt 18 = .ok (.iload_n 1, 1) := by decide +kernel
theorem dX3_mixAt_19 : decode cX3_mixAt 19 = .ok (.laload, 1) := by decide +kernel
theorem dX3_mixAt_20 : decode cX3_mixAt 20 = .ok (.lreturn, 1) := by decide +kernel
theorem dX3_candidateAt_0 : decode cX3_candidateAt 0 = .ok (.iload_n 1, 1) := by decide +kernel
theorem dX3_candidateAt_1 : decode cX3_candidateAt 1 = .ok (.ifCond .lt 17, 3) := by decide +kernel
theorem dX3_candidateAt_4 : decode cX3_candidateAt 4 = .ok (.iload_n 1, 1) := by decide +kernel
theorem dX3_candidateAt_5 : decode cX3_candidateAt 5 = .ok (.aload_n 0, 1) := by decide +kernel
theorem dX3_candidateAt_6 : decode cX3_candidateAt 6 = .ok (.getfield 42, 3) := by decide +kernel
theorem dX3_candidateAt_9 : decode cX3_candidateAt 9 = .ok (.if_icmp .ge 9, 3) := by decide +kernel
theorem dX3_candidateAt_12 : decode cX3_candidateAt 12 = .ok (.iload_n 1, 1) := by decide +kernel
theorem dX3_candidateAt_13 : decode cX3_candidateAt 13 = .ok (.bipush 60, 2) := by decide +kernel
theorem dX3_candidateAt_15 : decode cX3_candidateAt 15 = .ok (.if_icmp .lt 7, 3) := by decide +kernel
theorem dX3_candidateAt_18 : decode cX3_candidateAt 18 = .ok (.iconst 0, 1) := by decide +kernel
theorem dX3_candidateAt_19 : decode cX3_candidateAt 19 = .ok (.goto 9, 3) := by decide +kernel
theorem dX3_candidateAt_22 : decode cX3_candidateAt 22 = .ok (.aload_n 0, 1) := by decide +kernel
theorem dX3_candidateAt_23 : decode cX3_candidateAt 23 = .ok (.getfield 22, 3) := by decide +kernel
theorem dX3_candidateAt_26 : decode cX3_candidateAt 26 = .ok (.iload_n 1, 1) := by decide +kernel
theorem dX3_candidateAt_27 : decode cX3_candidateAt 27 = .ok (.iaload, 1) := by decide +kernel
theorem dX3_candidateAt_28 : decode cX3_candidateAt 28 = .ok (.ireturn, 1) := by decide +kernel
theorem dX3_chosenAt_0 : decode cX3_chosenAt 0 = .ok (.iload_n 1, 1) := by decide +kernel
theorem dX3_chosenAt_1 : decode cX3_chosenAt 1 = .ok (.ifCond .lt 17, 3) := by decide +kernel
theorem dX3_chosenAt_4 : decode cX3_chosenAt 4 = .ok (.iload_n 1, 1) := by decide +kernel
theorem dX3_chosenAt_5 : decode cX3_chosenAt 5 = .ok (.aload_n 0, 1) := by decide +kernel
theorem dX3_chosenAt_6 : decode cX3_chosenAt 6 = .ok (.getfield 38, 3) := by decide +kernel
theorem dX3_chosenAt_9 : decode cX3_chosenAt 9 = .ok (.if_icmp .ge 9, 3) := by decide +kernel
theorem dX3_chosenAt_12 : decode cX3_chosenAt 12 = .ok (.iload_n 1, 1) := by decide +kernel
theorem dX3_chosenAt_13 : decode cX3_chosenAt 13 = .ok (.bipush 60, 2) := by decide +kernel
theorem dX3_chosenAt_15 : decode cX3_chosenAt 15 = .ok (.if_icmp .lt 7, 3) := by decide +kernel
theorem dX3_chosenAt_18 : decode cX3_chosenAt 18 = .ok (.iconst (-1), 1) := by decide +kernel
theorem dX3_chosenAt_19 : decode cX3_chosenAt 19 = .ok (.goto 9, 3) := by decide +kernel
theorem dX3_chosenAt_22 : decode cX3_chosenAt 22 = .ok (.aload_n 0, 1) := by decide +kernel
theorem dX3_chosenAt_23 : decode cX3_chosenAt 23 = .ok (.getfield 29, 3) := by decide +kernel
theorem dX3_chosenAt_26 : decode cX3_chosenAt 26 = .ok (.iload_n 1, 1) := by decide +kernel
theorem dX3_chosenAt_27 : decode cX3_chosenAt 27 = .ok (.iaload, 1) := by decide +kernel
theorem dX3_chosenAt_28 : decode cX3_chosenAt 28 = .ok (.ireturn, 1) := by decide +kernel
theorem dX3_partAt_0 : decode cX3_partAt 0 = .ok (.aload_n 0, 1) := by decide +kernel
theorem dX3_partAt_1 : decode cX3_partAt 1 = .ok (.getfield 12, 3) := by decide +kernel
theorem dX3_partAt_4 : decode cX3_partAt 4 = .ok (.aload_n 0, 1) := by decide +kernel
theorem dX3_partAt_5 : decode cX3_partAt 5 = .ok (.iload_n 1, 1) := by decide +kernel
theorem dX3_partAt_6 : decode cX3_partAt 6 = .ok (.invokevirtual 92, 3) := by decide +kernel
theorem dX3_partAt_9 : decode cX3_partAt 9 = .ok (.iload_n 2, 1) := by decide +kernel
theorem dX3_partAt_10 : decode cX3_partAt 10 = .ok (.invokevirtual 77, 3) := by decide +kernel
theorem dX3_partAt_13 : decode cX3_partAt 13 = .ok (.ireturn, 1) := by decide +kernel
theorem dX3_rankOf_0 : decode cX3_rankOf 0 = .ok (.iload_n 1, 1) := by decide +kernel
theorem dX3_rankOf_1 : decode cX3_rankOf 1 = .ok (.ifCond .lt 20, 3) := by decide +kernel
theorem dX3_rankOf_4 : decode cX3_rankOf 4 = .ok (.iload_n 1, 1) := by decide +kernel
theorem dX3_rankOf_5 : decode cX3_rankOf 5 = .ok (.aload_n 0, 1) := by decide +kernel
theorem dX3_rankOf_6 : decode cX3_rankOf 6 = .ok (.getfield 12, 3) := by decide +kernel
theorem dX3_rankOf_9 : decode cX3_rankOf 9 = .ok (.invokevirtual 45, 3) := by decide +kernel
theorem dX3_rankOf_12 : decode cX3_rankOf 12 = .ok (.if_icmp .ge 9, 3) := by decide +kernel
theorem dX3_rankOf_15 : decode cX3_rankOf 15 = .ok (.iload_n 1, 1) := by decide +kernel
theorem dX3_rankOf_16 : decode cX3_rankOf 16 = .ok (.bipush 60, 2) := by decide +kernel
theorem dX3_rankOf_18 : decode cX3_rankOf 18 = .ok (.if_icmp .lt 7, 3) := by decide +kernel
theorem dX3_rankOf_21 : decode cX3_rankOf 21 = .ok (.iconst (-1), 1) := by decide +kernel
theorem dX3_rankOf_22 : decode cX3_rankOf 22 = .ok (.goto 9, 3) := by decide +kernel
theorem dX3_rankOf_25 : decode cX3_rankOf 25 = .ok (.aload_n 0, 1) := by decide +kernel
theorem dX3_rankOf_26 : decode cX3_rankOf 26 = .ok (.getfield 26, 3) := by decide +kernel
theorem dX3_rankOf_29 : decode cX3_rankOf 29 = .ok (.iload_n 1, 1) := by decide +kernel
theorem dX3_rankOf_30 : decode cX3_rankOf 30 = .ok (.iaload, 1) := by decide +kernel
theorem dX3_rankOf_31 : decode cX3_rankOf 31 = .ok (.ireturn, 1) := by decide +kernel
theorem dX3_placeOf_0 : decode cX3_placeOf 0 = .ok (.iload_n 1, 1) := by decide +kernel
theorem dX3_placeOf_1 : decode cX3_placeOf 1 = .ok (.ifCond .lt 20, 3) := by decide +kernel
theorem dX3_placeOf_4 : decode cX3_placeOf 4 = .ok (.iload_n 1, 1) := by decide +kernel
theorem dX3_placeOf_5 : decode cX3_placeOf 5 = .ok (.aload_n 0, 1) := by decide +kernel
theorem dX3_placeOf_6 : decode cX3_placeOf 6 = .ok (.getfield 12, 3) := by decide +kernel
theorem dX3_placeOf_9 : decode cX3_placeOf 9 = .ok (.invokevirtual 45, 3) := by decide +kernel
theorem dX3_placeOf_12 : decode cX3_placeOf 12 = .ok (.if_icmp .ge 9, 3) := by decide +kernel
theorem dX3_placeOf_15 : decode cX3_placeOf 15 = .ok (.iload_n 1, 1) := by decide +kernel
theorem dX3_placeOf_16 : decode cX3_placeOf 16 = .ok (.bipush 60, 2) := by decide +kernel
theorem dX3_placeOf_18 : decode cX3_placeOf 18 = .ok (.if_icmp .lt 7, 3) := by decide +kernel
theorem dX3_placeOf_21 : decode cX3_placeOf 21 = .ok (.iconst (-1), 1) := by decide +kernel
theorem dX3_placeOf_22 : decode cX3_placeOf 22 = .ok (.goto 9, 3) := by decide +kernel
theorem dX3_placeOf_25 : decode cX3_placeOf 25 = .ok (.aload_n 0, 1) := by decide +kernel
theorem dX3_placeOf_26 : decode cX3_placeOf 26 = .ok (.getfield 32, 3) := by decide +kernel
theorem dX3_placeOf_29 : decode cX3_placeOf 29 = .ok (.iload_n 1, 1) := by decide +kernel
theorem dX3_placeOf_30 : decode cX3_placeOf 30 = .ok (.iaload, 1) := by decide +kernel
theorem dX3_placeOf_31 : decode cX3_placeOf 31 = .ok (.ireturn, 1) := by decide +kernel
theorem dX3_timesOfKey_0 : decode cX3_timesOfKey 0 = .ok (.iconst 0, 1) := by decide +kernel
theorem dX3_timesOfKey_1 : decode cX3_timesOfKey 1 = .ok (.istore_n 2, 1) := by decide +kernel
theorem dX3_timesOfKey_2 : decode cX3_timesOfKey 2 = .ok (.iconst 0, 1) := by decide +kernel
theorem dX3_timesOfKey_3 : decode cX3_timesOfKey 3 = .ok (.istore_n 3, 1) := by decide +kernel
theorem dX3_timesOfKey_4 : decode cX3_timesOfKey 4 = .ok (.iload_n 3, 1) := by decide +kernel
theorem dX3_timesOfKey_5 : decode cX3_timesOfKey 5 = .ok (.aload_n 0, 1) := by decide +kernel
theorem dX3_timesOfKey_6 : decode cX3_timesOfKey 6 = .ok (.getfield 38, 3) := by decide +kernel
theorem dX3_timesOfKey_9 : decode cX3_timesOfKey 9 = .ok (.if_icmp .ge 22, 3) := by decide +kernel
theorem dX3_timesOfKey_12 : decode cX3_timesOfKey 12 = .ok (.aload_n 0, 1) := by decide +kernel
theorem dX3_timesOfKey_13 : decode cX3_timesOfKey 13 = .ok (.iload_n 3, 1) := by decide +kernel
theorem dX3_timesOfKey_14 : decode cX3_timesOfKey 14 = .ok (.iconst 1, 1) := by decide +kernel
theorem dX3_timesOfKey_15 : decode cX3_timesOfKey 15 = .ok (.invokevirtual 95, 3) := by decide +kernel
theorem dX3_timesOfKey_18 : decode cX3_timesOfKey 18 = .ok (.iload_n 1, 1) := by decide +kernel
theorem dX3_timesOfKey_19 : decode cX3_timesOfKey 19 = .ok (.if_icmp .ne 6, 3) := by decide +kernel
theorem dX3_timesOfKey_22 : decode cX3_timesOfKey 22 = .ok (.iinc 2 1, 3) := by decide +kernel
theorem dX3_timesOfKey_25 : decode cX3_timesOfKey 25 = .ok (.iinc 3 1, 3) := by decide +kernel
theorem dX3_timesOfKey_28 : decode cX3_timesOfKey 28 = .ok (.goto (-24), 3) := by decide +kernel
theorem dX3_timesOfKey_31 : decode cX3_timesOfKey 31 = .ok (.iload_n 2, 1) := by decide +kernel
theorem dX3_timesOfKey_32 : decode cX3_timesOfKey 32 = .ok (.ireturn, 1) := by decide +kernel
theorem dX3_hasNumber_0 : decode cX3_hasNumber 0 = .ok (.iconst 0, 1) := by decide +kernel
theorem dX3_hasNumber_1 : decode cX3_hasNumber 1 = .ok (.istore_n 2, 1) := by decide +kernel
theorem dX3_hasNumber_2 : decode cX3_hasNumber 2 = .ok (.iload_n 2, 1) := by decide +kernel
theorem dX3_hasNumber_3 : decode cX3_hasNumber 3 = .ok (.aload_n 0, 1) := by decide +kernel
theorem dX3_hasNumber_4 : decode cX3_hasNumber 4 = .ok (.getfield 38, 3) := by decide +kernel
theorem dX3_hasNumber_7 : decode cX3_hasNumber 7 = .ok (.if_icmp .ge 21, 3) := by decide +kernel
theorem dX3_hasNumber_10 : decode cX3_hasNumber 10 = .ok (.aload_n 0, 1) := by decide +kernel
theorem dX3_hasNumber_11 : decode cX3_hasNumber 11 = .ok (.iload_n 2, 1) := by decide +kernel
theorem dX3_hasNumber_12 : decode cX3_hasNumber 12 = .ok (.iconst 0, 1) := by decide +kernel
theorem dX3_hasNumber_13 : decode cX3_hasNumber 13 = .ok (.invokevirtual 95, 3) := by decide +kernel
theorem dX3_hasNumber_16 : decode cX3_hasNumber 16 = .ok (.iload_n 1, 1) := by decide +kernel
theorem dX3_hasNumber_17 : decode cX3_hasNumber 17 = .ok (.if_icmp .ne 5, 3) := by decide +kernel
theorem dX3_hasNumber_20 : decode cX3_hasNumber 20 = .ok (.iconst 1, 1) := by decide +kernel
theorem dX3_hasNumber_21 : decode cX3_hasNumber 21 = .ok (.ireturn, 1) := by decide +kernel
theorem dX3_hasNumber_22 : decode cX3_hasNumber 22 = .ok (.iinc 2 1, 3) := by decide +kernel
theorem dX3_hasNumber_25 : decode cX3_hasNumber 25 = .ok (.goto (-23), 3) := by decide +kernel
theorem dX3_hasNumber_28 : decode cX3_hasNumber 28 = .ok (.iconst 0, 1) := by decide +kernel
theorem dX3_hasNumber_29 : decode cX3_hasNumber 29 = .ok (.ireturn, 1) := by decide +kernel
theorem dX3_sortedValue_0 : decode cX3_sortedValue 0 = .ok (.aload_n 0, 1) := by decide +kernel
theorem dX3_sortedValue_1 : decode cX3_sortedValue 1 = .ok (.getfield 38, 3) := by decide +kernel
theorem dX3_sortedValue_4 : decode cX3_sortedValue 4 = .ok (.bipush 60, 2) := by decide +kernel
theorem dX3_sortedValue_6 : decode cX3_sortedValue 6 = .ok (.invokestatic 49, 3) := by decide +kernel
theorem dX3_sortedValue_9 : decode cX3_sortedValue 9 = .ok (.istore_n 2, 1) := by decide +kernel
theorem dX3_sortedValue_10 : decode cX3_sortedValue 10 = .ok (.iconst 0, 1) := by decide +kernel
theorem dX3_sortedValue_11 : decode cX3_sortedValue 11 = .ok (.istore_n 3, 1) := by decide +kernel
theorem dX3_sortedValue_12 : decode cX3_sortedValue 12 = .ok (.iload_n 3, 1) := by decide +kernel
theorem dX3_sortedValue_13 : decode cX3_sortedValue 13 = .ok (.iload_n 2, 1) := by decide +kernel
theorem dX3_sortedValue_14 : decode cX3_sortedValue 14 = .ok (.if_icmp .ge 70, 3) := by decide +kernel
theorem dX3_sortedValue_17 : decode cX3_sortedValue 17 = .ok (.aload_n 0, 1) := by decide +kernel
theorem dX3_sortedValue_18 : decode cX3_sortedValue 18 = .ok (.iload_n 3, 1) := by decide +kernel
theorem dX3_sortedValue_19 : decode cX3_sortedValue 19 = .ok (.iconst 4, 1) := by decide +kernel
theorem dX3_sortedValue_20 : decode cX3_sortedValue 20 = .ok (.invokevirtual 95, 3) := by decide +kernel
theorem dX3_sortedValue_23 : decode cX3_sortedValue 23 = .ok (.istore 4, 2) := by decide +kernel
theorem dX3_sortedValue_25 : decode cX3_sortedValue 25 = .ok (.iload_n 3, 1) := by decide +kernel
theorem dX3_sortedValue_26 : decode cX3_sortedValue 26 = .ok (.istore 5, 2) := by decide +kernel
theorem dX3_sortedValue_28 : decode cX3_sortedValue 28 = .ok (.iload 5, 2) := by decide +kernel
theorem dX3_sortedValue_30 : decode cX3_sortedValue 30 = .ok (.ifCond .le 39, 3) := by decide +kernel
theorem dX3_sortedValue_33 : decode cX3_sortedValue 33 = .ok (.aload_n 0, 1) := by decide +kernel
theorem dX3_sortedValue_34 : decode cX3_sortedValue 34 = .ok (.getfield 35, 3) := by decide +kernel
theorem dX3_sortedValue_37 : decode cX3_sortedValue 37 = .ok (.iload 5, 2) := by decide +kernel
theorem dX3_sortedValue_39 : decode cX3_sortedValue 39 = .ok (.iconst 1, 1) := by decide +kernel
theorem dX3_sortedValue_40 : decode cX3_sortedValue 40 = .ok (.isub, 1) := by decide +kernel
theorem dX3_sortedValue_41 : decode cX3_sortedValue 41 = .ok (.iaload, 1) := by decide +kernel
theorem dX3_sortedValue_42 : decode cX3_sortedValue 42 = .ok (.iload 4, 2) := by decide +kernel
theorem dX3_sortedValue_44 : decode cX3_sortedValue 44 = .ok (.if_icmp .le 25, 3) := by decide +kernel
theorem dX3_sortedValue_47 : decode cX3_sortedValue 47 = .ok (.aload_n 0, 1) := by decide +kernel
theorem dX3_sortedValue_48 : decode cX3_sortedValue 48 = .ok (.getfield 35, 3) := by decide +kernel
theorem dX3_sortedValue_51 : decode cX3_sortedValue 51 = .ok (.iload 5, 2) := by decide +kernel
theorem dX3_sortedValue_53 : decode cX3_sortedValue 53 = .ok (.aload_n 0, 1) := by decide +kernel
theorem dX3_sortedValue_54 : decode cX3_sortedValue 54 = .ok (.getfield 35, 3) := by decide +kernel
theorem dX3_sortedValue_57 : decode cX3_sortedValue 57 = .ok (.iload 5, 2) := by decide +kernel
theorem dX3_sortedValue_59 : decode cX3_sortedValue 59 = .ok (.iconst 1, 1) := by decide +kernel
theorem dX3_sortedValue_60 : decode cX3_sortedValue 60 = .ok (.isub, 1) := by decide +kernel
theorem dX3_sortedValue_61 : decode cX3_sortedValue 61 = .ok (.iaload, 1) := by decide +kernel
theorem dX3_sortedValue_62 : decode cX3_sortedValue 62 = .ok (.iastore, 1) := by decide +kernel
theorem dX3_sortedValue_63 : decode cX3_sortedValue 63 = .ok (.iinc 5 (-1), 3) := by decide +kernel
theorem dX3_sortedValue_66 : decode cX3_sortedValue 66 = .ok (.goto (-38), 3) := by decide +kernel
theorem dX3_sortedValue_69 : decode cX3_sortedValue 69 = .ok (.aload_n 0, 1) := by decide +kernel
theorem dX3_sortedValue_70 : decode cX3_sortedValue 70 = .ok (.getfield 35, 3) := by decide +kernel
theorem dX3_sortedValue_73 : decode cX3_sortedValue 73 = .ok (.iload 5, 2) := by decide +kernel
theorem dX3_sortedValue_75 : decode cX3_sortedValue 75 = .ok (.iload 4, 2) := by decide +kernel
theorem dX3_sortedValue_77 : decode cX3_sortedValue 77 = .ok (.iastore, 1) := by decide +kernel
theorem dX3_sortedValue_78 : decode cX3_sortedValue 78 = .ok (.iinc 3 1, 3) := by decide +kernel
theorem dX3_sortedValue_81 : decode cX3_sortedValue 81 = .ok (.goto (-69), 3) := by decide +kernel
theorem dX3_sortedValue_84 : decode cX3_sortedValue 84 = .ok (.iload_n 1, 1) := by decide +kernel
theorem dX3_sortedValue_85 : decode cX3_sortedValue 85 = .ok (.ifCond .lt 8, 3) := by decide +kernel
theorem dX3_sortedValue_88 : decode cX3_sortedValue 88 = .ok (.iload_n 1, 1) := by decide +kernel
theorem dX3_sortedValue_89 : decode cX3_sortedValue 89 = .ok (.iload_n 2, 1) := by decide +kernel
theorem dX3_sortedValue_90 : decode cX3_sortedValue 90 = .ok (.if_icmp .lt 7, 3) := by decide +kernel
theorem dX3_sortedValue_93 : decode cX3_sortedValue 93 = .ok (.iconst 0, 1) := by decide +kernel
theorem dX3_sortedValue_94 : decode cX3_sortedValue 94 = .ok (.goto 9, 3) := by decide +kernel
theorem dX3_sortedValue_97 : decode cX3_sortedValue 97 = .ok (.aload_n 0, 1) := by decide +kernel
theorem dX3_sortedValue_98 : decode cX3_sortedValue 98 = .ok (.getfield 35, 3) := by decide +kernel
theorem dX3_sortedValue_101 : decode cX3_sortedValue 101 = .ok (.iload_n 1, 1) := by decide +kernel
theorem dX3_sortedValue_102 : decode cX3_sortedValue 102 = .ok (.iaload, 1) := by decide +kernel
theorem dX3_sortedValue_103 : decode cX3_sortedValue 103 = .ok (.ireturn, 1) := by decide +kernel
theorem dX3_shareUpTo_0 : decode cX3_shareUpTo 0 = .ok (.aload_n 0, 1) := by decide +kernel
theorem dX3_shareUpTo_1 : decode cX3_shareUpTo 1 = .ok (.getfield 38, 3) := by decide +kernel
theorem dX3_shareUpTo_4 : decode cX3_shareUpTo 4 = .ok (.ifCond .gt 5, 3) := by decide +kernel
theorem dX3_shareUpTo_7 : decode cX3_shareUpTo 7 = .ok (.fconst 0, 1) := by decide +kernel
theorem dX3_shareUpTo_8 : decode cX3_shareUpTo 8 = .ok (.freturn, 1) := by decide +kernel
theorem dX3_shareUpTo_9 : decode cX3_shareUpTo 9 = .ok (.iconst 0, 1) := by decide +kernel
theorem dX3_shareUpTo_10 : decode cX3_shareUpTo 10 = .ok (.istore_n 2, 1) := by decide +kernel
theorem dX3_shareUpTo_11 : decode cX3_shareUpTo 11 = .ok (.iconst 0, 1) := by decide +kernel
theorem dX3_shareUpTo_12 : decode cX3_shareUpTo 12 = .ok (.istore_n 3, 1) := by decide +kernel
theorem dX3_shareUpTo_13 : decode cX3_shareUpTo 13 = .ok (.iload_n 3, 1) := by decide +kernel
theorem dX3_shareUpTo_14 : decode cX3_shareUpTo 14 = .ok (.aload_n 0, 1) := by decide +kernel
theorem dX3_shareUpTo_15 : decode cX3_shareUpTo 15 = .ok (.getfield 38, 3) := by decide +kernel
theorem dX3_shareUpTo_18 : decode cX3_shareUpTo 18 = .ok (.if_icmp .ge 22, 3) := by decide +kernel
theorem dX3_shareUpTo_21 : decode cX3_shareUpTo 21 = .ok (.aload_n 0, 1) := by decide +kernel
theorem dX3_shareUpTo_22 : decode cX3_shareUpTo 22 = .ok (.iload_n 3, 1) := by decide +kernel
theorem dX3_shareUpTo_23 : decode cX3_shareUpTo 23 = .ok (.iconst 4, 1) := by decide +kernel
theorem dX3_shareUpTo_24 : decode cX3_shareUpTo 24 = .ok (.invokevirtual 95, 3) := by decide +kernel
theorem dX3_shareUpTo_27 : decode cX3_shareUpTo 27 = .ok (.iload_n 1, 1) := by decide +kernel
theorem dX3_shareUpTo_28 : decode cX3_shareUpTo 28 = .ok (.if_icmp .gt 6, 3) := by decide +kernel
theorem dX3_shareUpTo_31 : decode cX3_shareUpTo 31 = .ok (.iinc 2 1, 3) := by decide +kernel
theorem dX3_shareUpTo_34 : decode cX3_shareUpTo 34 = .ok (.iinc 3 1, 3) := by decide +kernel
theorem dX3_shareUpTo_37 : decode cX3_shareUpTo 37 = .ok (.goto (-24), 3) := by decide +kernel
theorem dX3_shareUpTo_40 : decode cX3_shareUpTo 40 = .ok (.iload_n 2, 1) := by decide +kernel
theorem dX3_shareUpTo_41 : decode cX3_shareUpTo 41 = .ok (.i2f, 1) := by decide +kernel
theorem dX3_shareUpTo_42 : decode cX3_shareUpTo 42 = .ok (.aload_n 0, 1) := by decide +kernel
theorem dX3_shareUpTo_43 : decode cX3_shareUpTo 43 = .ok (.getfield 38, 3) := by decide +kernel
theorem dX3_shareUpTo_46 : decode cX3_shareUpTo 46 = .ok (.i2f, 1) := by decide +kernel
theorem dX3_shareUpTo_47 : decode cX3_shareUpTo 47 = .ok (.fdiv, 1) := by decide +kernel
theorem dX3_shareUpTo_48 : decode cX3_shareUpTo 48 = .ok (.freturn, 1) := by decide +kernel
theorem dX3_estimatedCount_0 : decode cX3_estimatedCount 0 = .ok (.aload_n 0, 1) := by decide +kernel
theorem dX3_estimatedCount_1 : decode cX3_estimatedCount 1 = .ok (.getfield 12, 3) := by decide +kernel
theorem dX3_estimatedCount_4 : decode cX3_estimatedCount 4 = .ok (.getfield 59, 3) := by decide +kernel
theorem dX3_estimatedCount_7 : decode cX3_estimatedCount 7 = .ok (.iconst 3, 1) := by decide +kernel
theorem dX3_estimatedCount_8 : decode cX3_estimatedCount 8 = .ok (.if_icmp .eq 12, 3) := by decide +kernel
theorem dX3_estimatedCount_11 : decode cX3_estimatedCount 11 = .ok (.aload_n 0, 1) := by decide +kernel
theorem dX3_estimatedCount_12 : decode cX3_estimatedCount 12 = .ok (.getfield 12, 3) := by decide +kernel
theorem dX3_estimatedCount_15 : decode cX3_estimatedCount 15 = .ok (.invokevirtual 45, 3) := by decide +kernel
theorem dX3_estimatedCount_18 : decode cX3_estimatedCount 18 = .ok (.i2l, 1) := by decide +kernel
theorem dX3_estimatedCount_19 : decode cX3_estimatedCount 19 = .ok (.lreturn, 1) := by decide +kernel
theorem dX3_estimatedCount_20 : decode cX3_estimatedCount 20 = .ok (.aload_n 0, 1) := by decide +kernel
theorem dX3_estimatedCount_21 : decode cX3_estimatedCount 21 = .ok (.invokevirtual 96, 3) := by decide +kernel
theorem dX3_estimatedCount_24 : decode cX3_estimatedCount 24 = .ok (.ifCond .eq 11, 3) := by decide +kernel
theorem dX3_estimatedCount_27 : decode cX3_estimatedCount 27 = .ok (.aload_n 0, 1) := by decide +kernel
theorem dX3_estimatedCount_28 : decode cX3_estimatedCount 28 = .ok (.getfield 38, 3) := by decide +kernel
theorem dX3_estimatedCount_31 : decode cX3_estimatedCount 31 = .ok (.i2l, 1) := by decide +kernel
theorem dX3_estimatedCount_32 : decode cX3_estimatedCount 32 = .ok (.goto 27, 3) := by decide +kernel
theorem dX3_estimatedCount_35 : decode cX3_estimatedCount 35 = .ok (.aload_n 0, 1) := by decide +kernel
theorem dX3_estimatedCount_36 : decode cX3_estimatedCount 36 = .ok (.getfield 38, 3) := by decide +kernel
theorem dX3_estimatedCount_39 : decode cX3_estimatedCount 39 = .ok (.i2l, 1) := by decide +kernel
theorem dX3_estimatedCount_40 : decode cX3_estimatedCount 40 = .ok (.ldc2_w 100, 3) := by decide +kernel
theorem dX3_estimatedCount_43 : decode cX3_estimatedCount 43 = .ok (.lmul, 1) := by decide +kernel
theorem dX3_estimatedCount_44 : decode cX3_estimatedCount 44 = .ok (.aload_n 0, 1) := by decide +kernel
theorem dX3_estimatedCount_45 : decode cX3_estimatedCount 45 = .ok (.aload_n 0, 1) := by decide +kernel
theorem dX3_estimatedCount_46 : decode cX3_estimatedCount 46 = .ok (.aload_n 0, 1) := by decide +kernel
theorem dX3_estimatedCount_47 : decode cX3_estimatedCount 47 = .ok (.getfield 38, 3) := by decide +kernel
theorem dX3_estimatedCount_50 : decode cX3_estimatedCount 50 = .ok (.invokevirtual 81, 3) := by decide +kernel
theorem dX3_estimatedCount_53 : decode cX3_estimatedCount 53 = .ok (.invokevirtual 80, 3) := by decide +kernel
theorem dX3_estimatedCount_56 : decode cX3_estimatedCount 56 = .ok (.invokestatic 102, 3) := by decide +kernel
theorem dX3_estimatedCount_59 : decode cX3_estimatedCount 59 = .ok (.lreturn, 1) := by decide +kernel
theorem dX3_estimatedTotal_0 : decode cX3_estimatedTotal 0 = .ok (.aload_n 0, 1) := by decide +kernel
theorem dX3_estimatedTotal_1 : decode cX3_estimatedTotal 1 = .ok (.getfield 12, 3) := by decide +kernel
theorem dX3_estimatedTotal_4 : decode cX3_estimatedTotal 4 = .ok (.getfield 59, 3) := by decide +kernel
theorem dX3_estimatedTotal_7 : decode cX3_estimatedTotal 7 = .ok (.iconst 1, 1) := by decide +kernel
theorem dX3_estimatedTotal_8 : decode cX3_estimatedTotal 8 = .ok (.if_icmp .ne 11, 3) := by decide +kernel
theorem dX3_estimatedTotal_11 : decode cX3_estimatedTotal 11 = .ok (.aload_n 0, 1) := by decide +kernel
theorem dX3_estimatedTotal_12 : decode cX3_estimatedTotal 12 = .ok (.iload_n 1, 1) := by decide +kernel
theorem dX3_estimatedTotal_13 : decode cX3_estimatedTotal 13 = .ok (.iload_n 2, 1) := by decide +kernel
theorem dX3_estimatedTotal_14 : decode cX3_estimatedTotal 14 = .ok (.iload_n 3, 1) := by decide +kernel
theorem dX3_estimatedTotal_15 : decode cX3_estimatedTotal 15 = .ok (.invokevirtual 106, 3) := by decide +kernel
theorem dX3_estimatedTotal_18 : decode cX3_estimatedTotal 18 = .ok (.lreturn, 1) := by decide +kernel
theorem dX3_estimatedTotal_19 : decode cX3_estimatedTotal 19 = .ok (.aload_n 0, 1) := by decide +kernel
theorem dX3_estimatedTotal_20 : decode cX3_estimatedTotal 20 = .ok (.getfield 12, 3) := by decide +kernel
theorem dX3_estimatedTotal_23 : decode cX3_estimatedTotal 23 = .ok (.getfield 59, 3) := by decide +kernel
theorem dX3_estimatedTotal_26 : decode cX3_estimatedTotal 26 = .ok (.iconst 2, 1) := by decide +kernel
theorem dX3_estimatedTotal_27 : decode cX3_estimatedTotal 27 = .ok (.if_icmp .ne 11, 3) := by decide +kernel
theorem dX3_estimatedTotal_30 : decode cX3_estimatedTotal 30 = .ok (.aload_n 0, 1) := by decide +kernel
theorem dX3_estimatedTotal_31 : decode cX3_estimatedTotal 31 = .ok (.iload_n 1, 1) := by decide +kernel
theorem dX3_estimatedTotal_32 : decode cX3_estimatedTotal 32 = .ok (.iload_n 2, 1) := by decide +kernel
theorem dX3_estimatedTotal_33 : decode cX3_estimatedTotal 33 = .ok (.iload_n 3, 1) := by decide +kernel
theorem dX3_estimatedTotal_34 : decode cX3_estimatedTotal 34 = .ok (.invokevirtual 110, 3) := by decide +kernel
theorem dX3_estimatedTotal_37 : decode cX3_estimatedTotal 37 = .ok (.lreturn, 1) := by decide +kernel
theorem dX3_estimatedTotal_38 : decode cX3_estimatedTotal 38 = .ok (.lconst 0, 1) := by decide +kernel
theorem dX3_estimatedTotal_39 : decode cX3_estimatedTotal 39 = .ok (.lstore 4, 2) := by decide +kernel
theorem dX3_estimatedTotal_41 : decode cX3_estimatedTotal 41 = .ok (.iconst 0, 1) := by decide +kernel
theorem dX3_estimatedTotal_42 : decode cX3_estimatedTotal 42 = .ok (.istore 6, 2) := by decide +kernel
theorem dX3_estimatedTotal_44 : decode cX3_estimatedTotal 44 = .ok (.iload 6, 2) := by decide +kernel
theorem dX3_estimatedTotal_46 : decode cX3_estimatedTotal 46 = .ok (.aload_n 0, 1) := by decide +kernel
theorem dX3_estimatedTotal_47 : decode cX3_estimatedTotal 47 = .ok (.getfield 38, 3) := by decide +kernel
theorem dX3_estimatedTotal_50 : decode cX3_estimatedTotal 50 = .ok (.if_icmp .ge 23, 3) := by decide +kernel
theorem dX3_estimatedTotal_53 : decode cX3_estimatedTotal 53 = .ok (.lload 4, 2) := by decide +kernel
theorem dX3_estimatedTotal_55 : decode cX3_estimatedTotal 55 = .ok (.aload_n 0, 1) := by decide +kernel
theorem dX3_estimatedTotal_56 : decode cX3_estimatedTotal 56 = .ok (.iload 6, 2) := by decide +kernel
theorem dX3_estimatedTotal_58 : decode cX3_estimatedTotal 58 = .ok (.iload_n 1, 1) := by decide +kernel
theorem dX3_estimatedTotal_59 : decode cX3_estimatedTotal 59 = .ok (.iload_n 2, 1) := by decide +kernel
theorem dX3_estimatedTotal_60 : decode cX3_estimatedTotal 60 = .ok (.iload_n 3, 1) := by decide +kernel
theorem dX3_estimatedTotal_61 : decode cX3_estimatedTotal 61 = .ok (.invokevirtual 113, 3) := by decide +kernel
theorem dX3_estimatedTotal_64 : decode cX3_estimatedTotal 64 = .ok (.ladd, 1) := by decide +kernel
theorem dX3_estimatedTotal_65 : decode cX3_estimatedTotal 65 = .ok (.lstore 4, 2) := by decide +kernel
theorem dX3_estimatedTotal_67 : decode cX3_estimatedTotal 67 = .ok (.iinc 6 1, 3) := by decide +kernel
theorem dX3_estimatedTotal_70 : decode cX3_estimatedTotal 70 = .ok (.goto (-26), 3) := by decide +kernel
theorem dX3_estimatedTotal_73 : decode cX3_estimatedTotal 73 = .ok (.lload 4, 2) := by decide +kernel
theorem dX3_estimatedTotal_75 : decode cX3_estimatedTotal 75 = .ok (.aload_n 0, 1) := by decide +kernel
theorem dX3_estimatedTotal_76 : decode cX3_estimatedTotal 76 = .ok (.invokevirtual 117, 3) := by decide +kernel
theorem dX3_estimatedTotal_79 : decode cX3_estimatedTotal 79 = .ok (.lmul, 1) := by decide +kernel
theorem dX3_estimatedTotal_80 : decode cX3_estimatedTotal 80 = .ok (.aload_n 0, 1) := by decide +kernel
theorem dX3_estimatedTotal_81 : decode cX3_estimatedTotal 81 = .ok (.getfield 38, 3) := by decide +kernel
theorem dX3_estimatedTotal_84 : decode cX3_estimatedTotal 84 = .ok (.i2l, 1) := by decide +kernel
theorem dX3_estimatedTotal_85 : decode cX3_estimatedTotal 85 = .ok (.invokestatic 102, 3) := by decide +kernel
theorem dX3_estimatedTotal_88 : decode cX3_estimatedTotal 88 = .ok (.lreturn, 1) := by decide +kernel
theorem dX3_stratifiedTotal_0 : decode cX3_stratifiedTotal 0 = .ok (.lconst 0, 1) := by decide +kernel
theorem dX3_stratifiedTotal_1 : decode cX3_stratifiedTotal 1 = .ok (.lstore 4, 2) := by decide +kernel
theorem dX3_stratifiedTotal_3 : decode cX3_stratifiedTotal 3 = .ok (.iconst 0, 1) := by decide +kernel
theorem dX3_stratifiedTotal_4 : decode cX3_stratifiedTotal 4 = .ok (.istore 6, 2) := by decide +kernel
theorem dX3_stratifiedTotal_6 : decode cX3_stratifiedTotal 6 = .ok (.iload 6, 2) := by decide +kernel
theorem dX3_stratifiedTotal_8 : decode cX3_stratifiedTotal 8 = .ok (.iconst 4, 1) := by decide +kernel
theorem dX3_stratifiedTotal_9 : decode cX3_stratifiedTotal 9 = .ok (.if_icmp .ge 86, 3) := by decide +kernel
theorem dX3_stratifiedTotal_12 : decode cX3_stratifiedTotal 12 = .ok (.lconst 0, 1) := by decide +kernel
theorem dX3_stratifiedTotal_13 : decode cX3_stratifiedTotal 13 = .ok (.lstore 7, 2) := by decide +kernel
theorem dX3_stratifiedTotal_15 : decode cX3_stratifiedTotal 15 = .ok (.iconst 0, 1) := by decide +kernel
theorem dX3_stratifiedTotal_16 : decode cX3_stratifiedTotal 16 = .ok (.istore 9, 2) := by decide +kernel
theorem dX3_stratifiedTotal_18 : decode cX3_stratifiedTotal 18 = .ok (.iconst 0, 1) := by decide +kernel
theorem dX3_stratifiedTotal_19 : decode cX3_stratifiedTotal 19 = .ok (.istore 10, 2) := by decide +kernel
theorem dX3_stratifiedTotal_21 : decode cX3_stratifiedTotal 21 = .ok (.iload 10, 2) := by decide +kernel
theorem dX3_stratifiedTotal_23 : decode cX3_stratifiedTotal 23 = .ok (.aload_n 0, 1) := by decide +kernel
theorem dX3_stratifiedTotal_24 : decode cX3_stratifiedTotal 24 = .ok (.getfield 38, 3) := by decide +kernel
theorem dX3_stratifiedTotal_27 : decode cX3_stratifiedTotal 27 = .ok (.if_icmp .ge 38, 3) := by decide +kernel
theorem dX3_stratifiedTotal_30 : decode cX3_stratifiedTotal 30 = .ok (.aload_n 0, 1) := by decide +kernel
theorem dX3_stratifiedTotal_31 : decode cX3_stratifiedTotal 31 = .ok (.iload 10, 2) := by decide +kernel
theorem dX3_stratifiedTotal_33 : decode cX3_stratifiedTotal 33 = .ok (.iconst 2, 1) := by decide +kernel
theorem dX3_stratifiedTotal_34 : decode cX3_stratifiedTotal 34 = .ok (.invokevirtual 95, 3) := by decide +kernel
theorem dX3_stratifiedTotal_37 : decode cX3_stratifiedTotal 37 = .ok (.iload 6, 2) := by decide +kernel
theorem dX3_stratifiedTotal_39 : decode cX3_stratifiedTotal 39 = .ok (.if_icmp .ne 20, 3) := by decide +kernel
theorem dX3_stratifiedTotal_42 : decode cX3_stratifiedTotal 42 = .ok (.lload 7, 2) := by decide +kernel
theorem dX3_stratifiedTotal_44 : decode cX3_stratifiedTotal 44 = .ok (.aload_n 0, 1) := by decide +kernel
theorem dX3_stratifiedTotal_45 : decode cX3_stratifiedTotal 45 = .ok (.iload 10, 2) := by decide +kernel
theorem dX3_stratifiedTotal_47 : decode cX3_stratifiedTotal 47 = .ok (.iload_n 1, 1) := by decide +kernel
theorem dX3_stratifiedTotal_48 : decode cX3_stratifiedTotal 48 = .ok (.iload_n 2, 1) := by decide +kernel
theorem dX3_stratifiedTotal_49 : decode cX3_stratifiedTotal 49 = .ok (.iload_n 3, 1) := by decide +kernel
theorem dX3_stratifiedTotal_50 : decode cX3_stratifiedTotal 50 = .ok (.invokevirtual 113, 3) := by decide +kernel
theorem dX3_stratifiedTotal_53 : decode cX3_stratifiedTotal 53 = .ok (.ladd, 1) := by decide +kernel
theorem dX3_stratifiedTotal_54 : decode cX3_stratifiedTotal 54 = .ok (.lstore 7, 2) := by decide +kernel
theorem dX3_stratifiedTotal_56 : decode cX3_stratifiedTotal 56 = .ok (.iinc 9 1, 3) := by decide +kernel
theorem dX3_stratifiedTotal_59 : decode cX3_stratifiedTotal 59 = .ok (.iinc 10 1, 3) := by decide +kernel
theorem dX3_stratifiedTotal_62 : decode cX3_stratifiedTotal 62 = .ok (.goto (-41), 3) := by decide +kernel
theorem dX3_stratifiedTotal_65 : decode cX3_stratifiedTotal 65 = .ok (.lload 4, 2) := by decide +kernel
theorem dX3_stratifiedTotal_67 : decode cX3_stratifiedTotal 67 = .ok (.lload 7, 2) := by decide +kernel
theorem dX3_stratifiedTotal_69 : decode cX3_stratifiedTotal 69 = .ok (.aload_n 0, 1) := by decide +kernel
theorem dX3_stratifiedTotal_70 : decode cX3_stratifiedTotal 70 = .ok (.getfield 12, 3) := by decide +kernel
theorem dX3_stratifiedTotal_73 : decode cX3_stratifiedTotal 73 = .ok (.iload 6, 2) := by decide +kernel
theorem dX3_stratifiedTotal_75 : decode cX3_stratifiedTotal 75 = .ok (.invokevirtual 121, 3) := by decide +kernel
theorem dX3_stratifiedTotal_78 : decode cX3_stratifiedTotal 78 = .ok (.i2l, 1) := by decide +kernel
theorem dX3_stratifiedTotal_79 : decode cX3_stratifiedTotal 79 = .ok (.lmul, 1) := by decide +kernel
theorem dX3_stratifiedTotal_80 : decode cX3_stratifiedTotal 80 = .ok (.iload 9, 2) := by decide +kernel
theorem dX3_stratifiedTotal_82 : decode cX3_stratifiedTotal 82 = .ok (.i2l, 1) := by decide +kernel
theorem dX3_stratifiedTotal_83 : decode cX3_stratifiedTotal 83 = .ok (.invokestatic 102, 3) := by decide +kernel
theorem dX3_stratifiedTotal_86 : decode cX3_stratifiedTotal 86 = .ok (.ladd, 1) := by decide +kernel
theorem dX3_stratifiedTotal_87 : decode cX3_stratifiedTotal 87 = .ok (.lstore 4, 2) := by decide +kernel
theorem dX3_stratifiedTotal_89 : decode cX3_stratifiedTotal 89 = .ok (.iinc 6 1, 3) := by decide +kernel
theorem dX3_stratifiedTotal_92 : decode cX3_stratifiedTotal 92 = .ok (.goto (-86), 3) := by decide +kernel
theorem dX3_stratifiedTotal_95 : decode cX3_stratifiedTotal 95 = .ok (.lload 4, 2) := by decide +kernel
theorem dX3_stratifiedTotal_97 : decode cX3_stratifiedTotal 97 = .ok (.lreturn, 1) := by decide +kernel
theorem dX3_weightedTotal_0 : decode cX3_weightedTotal 0 = .ok (.aload_n 0, 1) := by decide +kernel
theorem dX3_weightedTotal_1 : decode cX3_weightedTotal 1 = .ok (.aload_n 0, 1) := by decide +kernel
theorem dX3_weightedTotal_2 : decode cX3_weightedTotal 2 = .ok (.getfield 38, 3) := by decide +kernel
theorem dX3_weightedTotal_5 : decode cX3_weightedTotal 5 = .ok (.invokevirtual 81, 3) := by decide +kernel
theorem dX3_weightedTotal_8 : decode cX3_weightedTotal 8 = .ok (.istore 4, 2) := by decide +kernel
theorem dX3_weightedTotal_10 : decode cX3_weightedTotal 10 = .ok (.aload_n 0, 1) := by decide +kernel
theorem dX3_weightedTotal_11 : decode cX3_weightedTotal 11 = .ok (.iload 4, 2) := by decide +kernel
theorem dX3_weightedTotal_13 : decode cX3_weightedTotal 13 = .ok (.invokevirtual 80, 3) := by decide +kernel
theorem dX3_weightedTotal_16 : decode cX3_weightedTotal 16 = .ok (.lstore 5, 2) := by decide +kernel
theorem dX3_weightedTotal_18 : decode cX3_weightedTotal 18 = .ok (.ldc2_w 100, 3) := by decide +kernel
theorem dX3_weightedTotal_21 : decode cX3_weightedTotal 21 = .ok (.aload_n 0, 1) := by decide +kernel
theorem dX3_weightedTotal_22 : decode cX3_weightedTotal 22 = .ok (.getfield 12, 3) := by decide +kernel
theorem dX3_weightedTotal_25 : decode cX3_weightedTotal 25 = .ok (.iload 4, 2) := by decide +kernel
theorem dX3_weightedTotal_27 : decode cX3_weightedTotal 27 = .ok (.iconst 3, 1) := by decide +kernel
theorem dX3_weightedTotal_28 : decode cX3_weightedTotal 28 = .ok (.invokevirtual 77, 3) := by decide +kernel
theorem dX3_weightedTotal_31 : decode cX3_weightedTotal 31 = .ok (.i2l, 1) := by decide +kernel
theorem dX3_weightedTotal_32 : decode cX3_weightedTotal 32 = .ok (.lmul, 1) := by decide +kernel
theorem dX3_weightedTotal_33 : decode cX3_weightedTotal 33 = .ok (.lstore 7, 2) := by decide +kernel
theorem dX3_weightedTotal_35 : decode cX3_weightedTotal 35 = .ok (.lconst 0, 1) := by decide +kernel
theorem dX3_weightedTotal_36 : decode cX3_weightedTotal 36 = .ok (.lstore 9, 2) := by decide +kernel
theorem dX3_weightedTotal_38 : decode cX3_weightedTotal 38 = .ok (.iconst 0, 1) := by decide +kernel
theorem dX3_weightedTotal_39 : decode cX3_weightedTotal 39 = .ok (.istore 11, 2) := by decide +kernel
theorem dX3_weightedTotal_41 : decode cX3_weightedTotal 41 = .ok (.iload 11, 2) := by decide +kernel
theorem dX3_weightedTotal_43 : decode cX3_weightedTotal 43 = .ok (.aload_n 0, 1) := by decide +kernel
theorem dX3_weightedTotal_44 : decode cX3_weightedTotal 44 = .ok (.getfield 38, 3) := by decide +kernel
theorem dX3_weightedTotal_47 : decode cX3_weightedTotal 47 = .ok (.if_icmp .ge 80, 3) := by decide +kernel
theorem dX3_weightedTotal_50 : decode cX3_weightedTotal 50 = .ok (.aload_n 0, 1) := by decide +kernel
theorem dX3_weightedTotal_51 : decode cX3_weightedTotal 51 = .ok (.iload 11, 2) := by decide +kernel
theorem dX3_weightedTotal_53 : decode cX3_weightedTotal 53 = .ok (.iload_n 1, 1) := by decide +kernel
theorem dX3_weightedTotal_54 : decode cX3_weightedTotal 54 = .ok (.iload_n 2, 1) := by decide +kernel
theorem dX3_weightedTotal_55 : decode cX3_weightedTotal 55 = .ok (.iload_n 3, 1) := by decide +kernel
theorem dX3_weightedTotal_56 : decode cX3_weightedTotal 56 = .ok (.invokevirtual 113, 3) := by decide +kernel
theorem dX3_weightedTotal_59 : decode cX3_weightedTotal 59 = .ok (.lstore 12, 2) := by decide +kernel
theorem dX3_weightedTotal_61 : decode cX3_weightedTotal 61 = .ok (.aload_n 0, 1) := by decide +kernel
theorem dX3_weightedTotal_62 : decode cX3_weightedTotal 62 = .ok (.iload 11, 2) := by decide +kernel
theorem dX3_weightedTotal_64 : decode cX3_weightedTotal 64 = .ok (.iconst 3, 1) := by decide +kernel
theorem dX3_weightedTotal_65 : decode cX3_weightedTotal 65 = .ok (.invokevirtual 95, 3) := by decide +kernel
theorem dX3_weightedTotal_68 : decode cX3_weightedTotal 68 = .ok (.i2l, 1) := by decide +kernel
theorem dX3_weightedTotal_69 : decode cX3_weightedTotal 69 = .ok (.lload 5, 2) := by decide +kernel
theorem dX3_weightedTotal_71 : decode cX3_weightedTotal 71 = .ok (.lmul, 1) := by decide +kernel
theorem dX3_weightedTotal_72 : decode cX3_weightedTotal 72 = .ok (.lstore 14, 2) := by decide +kernel
theorem dX3_weightedTotal_74 : decode cX3_weightedTotal 74 = .ok (.aload_n 0, 1) := by decide +kernel
theorem dX3_weightedTotal_75 : decode cX3_weightedTotal 75 = .ok (.invokevirtual 96, 3) := by decide +kernel
theorem dX3_weightedTotal_78 : decode cX3_weightedTotal 78 = .ok (.ifCond .ne 11, 3) := by decide +kernel
theorem dX3_weightedTotal_81 : decode cX3_weightedTotal 81 = .ok (.lload 14, 2) := by decide +kernel
theorem dX3_weightedTotal_83 : decode cX3_weightedTotal 83 = .ok (.lload 7, 2) := by decide +kernel
theorem dX3_weightedTotal_85 : decode cX3_weightedTotal 85 = .ok (.lcmp, 1) := by decide +kernel
theorem dX3_weightedTotal_86 : decode cX3_weightedTotal 86 = .ok (.ifCond .lt 7, 3) := by decide +kernel
theorem dX3_weightedTotal_89 : decode cX3_weightedTotal 89 = .ok (.iconst 1, 1) := by decide +kernel
theorem dX3_weightedTotal_90 : decode cX3_weightedTotal 90 = .ok (.goto 4, 3) := by decide +kernel
theorem dX3_weightedTotal_93 : decode cX3_weightedTotal 93 = .ok (.iconst 0, 1) := by decide +kernel
theorem dX3_weightedTotal_94 : decode cX3_weightedTotal 94 = .ok (.istore 16, 2) := by decide +kernel
theorem dX3_weightedTotal_96 : decode cX3_weightedTotal 96 = .ok (.lload 9, 2) := by decide +kernel
theorem dX3_weightedTotal_98 : decode cX3_weightedTotal 98 = .ok (.iload 16, 2) := by decide +kernel
theorem dX3_weightedTotal_100 : decode cX3_weightedTotal 100 = .ok (.ifCond .eq 8, 3) := by decide +kernel
theorem dX3_weightedTotal_103 : decode cX3_weightedTotal 103 = .ok (.lload 12, 2) := by decide +kernel
theorem dX3_weightedTotal_105 : decode cX3_weightedTotal 105 = .ok (.goto 13, 3) := by decide +kernel
theorem dX3_weightedTotal_108 : decode cX3_weightedTotal 108 = .ok (.lload 12, 2) := by decide +kernel
theorem dX3_weightedTotal_110 : decode cX3_weightedTotal 110 = .ok (.lload 7, 2) := by decide +kernel
theorem dX3_weightedTotal_112 : decode cX3_weightedTotal 112 = .ok (.lmul, 1) := by decide +kernel
theorem dX3_weightedTotal_113 : decode cX3_weightedTotal 113 = .ok (.lload 14, 2) := by decide +kernel
theorem dX3_weightedTotal_115 : decode cX3_weightedTotal 115 = .ok (.invokestatic 102, 3) := by decide +kernel
theorem dX3_weightedTotal_118 : decode cX3_weightedTotal 118 = .ok (.ladd, 1) := by decide +kernel
theorem dX3_weightedTotal_119 : decode cX3_weightedTotal 119 = .ok (.lstore 9, 2) := by decide +kernel
theorem dX3_weightedTotal_121 : decode cX3_weightedTotal 121 = .ok (.iinc 11 1, 3) := by decide +kernel
theorem dX3_weightedTotal_124 : decode cX3_weightedTotal 124 = .ok (.goto (-83), 3) := by decide +kernel
theorem dX3_weightedTotal_127 : decode cX3_weightedTotal 127 = .ok (.lload 9, 2) := by decide +kernel
theorem dX3_weightedTotal_129 : decode cX3_weightedTotal 129 = .ok (.lreturn, 1) := by decide +kernel
theorem dX3_totalled_0 : decode cX3_totalled 0 = .ok (.aload_n 0, 1) := by decide +kernel
theorem dX3_totalled_1 : decode cX3_totalled 1 = .ok (.iload_n 1, 1) := by decide +kernel
theorem dX3_totalled_2 : decode cX3_totalled 2 = .ok (.iconst 1, 1) := by decide +kernel
theorem dX3_totalled_3 : decode cX3_totalled 3 = .ok (.invokevirtual 95, 3) := by decide +kernel
theorem dX3_totalled_6 : decode cX3_totalled 6 = .ok (.i2l, 1) := by decide +kernel
theorem dX3_totalled_7 : decode cX3_totalled 7 = .ok (.iload_n 3, 1) := by decide +kernel
theorem dX3_totalled_8 : decode cX3_totalled 8 = .ok (.i2l, 1) := by decide +kernel
theorem dX3_totalled_9 : decode cX3_totalled 9 = .ok (.iload 4, 2) := by decide +kernel
theorem dX3_totalled_11 : decode cX3_totalled 11 = .ok (.i2l, 1) := by decide +kernel
theorem dX3_totalled_12 : decode cX3_totalled 12 = .ok (.invokestatic 124, 3) := by decide +kernel
theorem dX3_totalled_15 : decode cX3_totalled 15 = .ok (.ifCond .eq 13, 3) := by decide +kernel
theorem dX3_totalled_18 : decode cX3_totalled 18 = .ok (.aload_n 0, 1) := by decide +kernel
theorem dX3_totalled_19 : decode cX3_totalled 19 = .ok (.iload_n 1, 1) := by decide +kernel
theorem dX3_totalled_20 : decode cX3_totalled 20 = .ok (.iload_n 2, 1) := by decide +kernel
theorem dX3_totalled_21 : decode cX3_totalled 21 = .ok (.invokevirtual 95, 3) := by decide +kernel
theorem dX3_totalled_24 : decode cX3_totalled 24 = .ok (.i2l, 1) := by decide +kernel
theorem dX3_totalled_25 : decode cX3_totalled 25 = .ok (.goto 4, 3) := by decide +kernel
theorem dX3_totalled_28 : decode cX3_totalled 28 = .ok (.lconst 0, 1) := by decide +kernel
theorem dX3_totalled_29 : decode cX3_totalled 29 = .ok (.lreturn, 1) := by decide +kernel
theorem dX4_init_0 : decode cX4_init 0 = .ok (.aload_n 0, 1) := by decide +kernel
theorem dX4_init_1 : decode cX4_init 1 = .ok (.invokespecial 3, 3) := by decide +kernel
theorem dX4_init_4 : decode cX4_init 4 = .ok (.aload_n 0, 1) := by decide +kernel
theorem dX4_init_5 : decode cX4_init 5 = .ok (.iconst 4, 1) := by decide +kernel
theorem dX4_init_6 : decode cX4_init 6 = .ok (.newarray .int, 2) := by decide +kernel
theorem dX4_init_8 : decode cX4_init 8 = .ok (.putfield 9, 3) := by decide +kernel
theorem dX4_init_11 : decode cX4_init 11 = .ok (.aload_n 0, 1) := by decide +kernel
theorem dX4_init_12 : decode cX4_init 12 = .ok (.sipush 300, 3) := by decide +kernel
theorem dX4_init_15 : decode cX4_init 15 = .ok (.newarray .int, 2) := by decide +kernel
theorem dX4_init_17 : decode cX4_init 17 = .ok (.putfield 15, 3) := by decide +kernel
theorem dX4_init_20 : decode cX4_init 20 = .ok (.return_, 1) := by decide +kernel
theorem dX4_isFilled_0 : decode cX4_isFilled 0 = .ok (.aload_n 0, 1) := by decide +kernel
theorem dX4_isFilled_1 : decode cX4_isFilled 1 = .ok (.getfield 18, 3) := by decide +kernel
theorem dX4_isFilled_4 : decode cX4_isFilled 4 = .ok (.ireturn, 1) := by decide +kernel
theorem dX4_count_0 : decode cX4_count 0 = .ok (.aload_n 0, 1) := by decide +kernel
theorem dX4_count_1 : decode cX4_count 1 = .ok (.getfield 22, 3) := by decide +kernel
theorem dX4_count_4 : decode cX4_count 4 = .ok (.ireturn, 1) := by decide +kernel
theorem dX4_empty_0 : decode cX4_empty 0 = .ok (.aload_n 0, 1) := by decide +kernel
theorem dX4_empty_1 : decode cX4_empty 1 = .ok (.iconst 0, 1) := by decide +kernel
theorem dX4_empty_2 : decode cX4_empty 2 = .ok (.putfield 18, 3) := by decide +kernel
theorem dX4_empty_5 : decode cX4_empty 5 = .ok (.aload_n 0, 1) := by decide +kernel
theorem dX4_empty_6 : decode cX4_empty 6 = .ok (.iconst 0, 1) := by decide +kernel
theorem dX4_empty_7 : decode cX4_empty 7 = .ok (.putfield 22, 3) := by decide +kernel
theorem dX4_empty_10 : decode cX4_empty 10 = .ok (.return_, 1) := by decide +kernel
theorem dX4_begin_0 : decode cX4_begin 0 = .ok (.aload_n 0, 1) := by decide +kernel
theorem dX4_begin_1 : decode cX4_begin 1 = .ok (.iconst 1, 1) := by decide +kernel
theorem dX4_begin_2 : decode cX4_begin 2 = .ok (.putfield 18, 3) := by decide +kernel
theorem dX4_begin_5 : decode cX4_begin 5 = .ok (.aload_n 0, 1) := by decide +kernel
theorem dX4_begin_6 : decode cX4_begin 6 = .ok (.iload_n 1, 1) := by decide +kernel
theorem dX4_begin_7 : decode cX4_begin 7 = .ok (.putfield 26, 3) := by decide +kernel
theorem dX4_begin_10 : decode cX4_begin 10 = .ok (.aload_n 0, 1) := by decide +kernel
theorem dX4_begin_11 : decode cX4_begin 11 = .ok (.iload_n 2, 1) := by decide +kernel
theorem dX4_begin_12 : decode cX4_begin 12 = .ok (.putfield 29, 3) := by decide +kernel
theorem dX4_begin_15 : decode cX4_begin 15 = .ok (.aload_n 0, 1) := by decide +kernel
theorem dX4_begin_16 : decode cX4_begin 16 = .ok (.iload_n 3, 1) := by decide +kernel
theorem dX4_begin_17 : decode cX4_begin 17 = .ok (.putfield 32, 3) := by decide +kernel
theorem dX4_begin_20 : decode cX4_begin 20 = .ok (.aload_n 0, 1) := by decide +kernel
theorem dX4_begin_21 : decode cX4_begin 21 = .ok (.iload 4, 2) := by decide +kernel
theorem dX4_begin_23 : decode cX4_begin 23 = .ok (.putfield 35, 3) := by decide +kernel
theorem dX4_begin_26 : decode cX4_begin 26 = .ok (.aload_n 0, 1) := by decide +kernel
theorem dX4_begin_27 : decode cX4_begin 27 = .ok (.iconst 0, 1) := by decide +kernel
theorem dX4_begin_28 : decode cX4_begin 28 = .ok (.putfield 22, 3) := by decide +kernel
theorem dX4_begin_31 : decode cX4_begin 31 = .ok (.iconst 0, 1) := by decide +kernel
theorem dX4_begin_32 : decode cX4_begin 32 = .ok (.istore 5, 2) := by decide +kernel
theorem dX4_begin_34 : decode cX4_begin 34 = .ok (.iload 5, 2) := by decide +kernel
theorem dX4_begin_36 : decode cX4_begin 36 = .ok (.iconst 4, 1) := by decide +kernel
theorem dX4_begin_37 : decode cX4_begin 37 = .ok (.if_icmp .ge 17, 3) := by decide +kernel
theorem dX4_begin_40 : decode cX4_begin 40 = .ok (.aload_n 0, 1) := by decide +kernel
theorem dX4_begin_41 : decode cX4_begin 41 = .ok (.getfield 9, 3) := by decide +kernel
theorem dX4_begin_44 : decode cX4_begin 44 = .ok (.iload 5, 2) := by decide +kernel
theorem dX4_begin_46 : decode cX4_begin 46 = .ok (.iload_n 2, 1) := by decide +kernel
theorem dX4_begin_47 : decode cX4_begin 47 = .ok (.iastore, 1) := by decide +kernel
theorem dX4_begin_48 : decode cX4_begin 48 = .ok (.iinc 5 1, 3) := by decide +kernel
theorem dX4_begin_51 : decode cX4_begin 51 = .ok (.goto (-17), 3) := by decide +kernel
theorem dX4_begin_54 : decode cX4_begin 54 = .ok (.return_, 1) := by decide +kernel
theorem dX4_become_0 : decode cX4_become 0 = .ok (.aload_n 0, 1) := by decide +kernel
theorem dX4_become_1 : decode cX4_become 1 = .ok (.aload_n 1, 1) := by decide +kernel
theorem dX4_become_2 : decode cX4_become 2 = .ok (.invokevirtual 38, 3) := by decide +kernel
theorem dX4_become_5 : decode cX4_become 5 = .ok (.aload_n 0, 1) := by decide +kernel
theorem dX4_become_6 : decode cX4_become 6 = .ok (.aload_n 1, 1) := by decide +kernel
theorem dX4_become_7 : decode cX4_become 7 = .ok (.getfield 22, 3) := by decide +kernel
theorem dX4_become_10 : decode cX4_become 10 = .ok (.putfield 22, 3) := by decide +kernel
theorem dX4_become_13 : decode cX4_become 13 = .ok (.aload_n 1, 1) := by decide +kernel
theorem dX4_become_14 : decode cX4_become 14 = .ok (.getfield 15, 3) := by decide +kernel
theorem dX4_become_17 : decode cX4_become 17 = .ok (.iconst 0, 1) := by decide +kernel
theorem dX4_become_18 : decode cX4_become 18 = .ok (.aload_n 0, 1) := by decide +kernel
theorem dX4_become_19 : decode cX4_become 19 = .ok (.getfield 15, 3) := by decide +kernel
theorem dX4_become_22 : decode cX4_become 22 = .ok (.iconst 0, 1) := by decide +kernel
theorem dX4_become_23 : decode cX4_become 23 = .ok (.aload_n 0, 1) := by decide +kernel
theorem dX4_become_24 : decode cX4_become 24 = .ok (.getfield 15, 3) := by decide +kernel
theorem dX4_become_27 : decode cX4_become 27 = .ok (.arraylength, 1) := by decide +kernel
theorem dX4_become_28 : decode cX4_become 28 = .ok (.invokestatic 42, 3) := by decide +kernel
theorem dX4_become_31 : decode cX4_become 31 = .ok (.return_, 1) := by decide +kernel
theorem dX4_takeSettings_0 : decode cX4_takeSettings 0 = .ok (.aload_n 0, 1) := by decide +kernel
theorem dX4_takeSettings_1 : decode cX4_takeSettings 1 = .ok (.aload_n 1, 1) := by decide +kernel
theorem dX4_takeSettings_2 : decode cX4_takeSettings 2 = .ok (.getfield 18, 3) := by decide +kernel
theorem dX4_takeSettings_5 : decode cX4_takeSettings 5 = .ok (.putfield 18, 3) := by decide +kernel
theorem dX4_takeSettings_8 : decode cX4_takeSettings 8 = .ok (.aload_n 0, 1) := by decide +kernel
theorem dX4_takeSettings_9 : decode cX4_takeSettings 9 = .ok (.aload_n 1, 1) := by decide +kernel
theorem dX4_takeSettings_10 : decode cX4_takeSettings 10 = .ok (.getfield 26, 3) := by decide +kernel
theorem dX4_takeSettings_13 : decode cX4_takeSettings 13 = .ok (.putfield 26, 3) := by decide +kernel
theorem dX4_takeSettings_16 : decode cX4_takeSettings 16 = .ok (.aload_n 0, 1) := by decide +kernel
theorem dX4_takeSettings_17 : decode cX4_takeSettings 17 = .ok (.aload_n 1, 1) := by decide +kernel
theorem dX4_takeSettings_18 : decode cX4_takeSettings 18 = .ok (.getfield 29, 3) := by decide +kernel
theorem dX4_takeSettings_21 : decode cX4_takeSettings 21 = .ok (.putfield 29, 3) := by decide +kernel
theorem dX4_takeSettings_24 : decode cX4_takeSettings 24 = .ok (.aload_n 0, 1) := by decide +kernel
theorem dX4_takeSettings_25 : decode cX4_takeSettings 25 = .ok (.aload_n 1, 1) := by decide +kernel
theorem dX4_takeSettings_26 : decode cX4_takeSettings 26 = .ok (.getfield 32, 3) := by decide +kernel
theorem dX4_takeSettings_29 : decode cX4_takeSettings 29 = .ok (.putfield 32, 3) := by decide +kernel
theorem dX4_takeSettings_32 : decode cX4_takeSettings 32 = .ok (.aload_n 0, 1) := by decide +kernel
theorem dX4_takeSettings_33 : decode cX4_takeSettings 33 = .ok (.aload_n 1, 1) := by decide +kernel
theorem dX4_takeSettings_34 : decode cX4_takeSettings 34 = .ok (.getfield 35, 3) := by decide +kernel
theorem dX4_takeSettings_37 : decode cX4_takeSettings 37 = .ok (.putfield 35, 3) := by decide +kernel
theorem dX4_takeSettings_40 : decode cX4_takeSettings 40 = .ok (.aload_n 1, 1) := by decide +kernel
theorem dX4_takeSettings_41 : decode cX4_takeSettings 41 = .ok (.getfield 9, 3) := by decide +kernel
theorem dX4_takeSettings_44 : decode cX4_takeSettings 44 = .ok (.iconst 0, 1) := by decide +kernel
theorem dX4_takeSettings_45 : decode cX4_takeSettings 45 = .ok (.aload_n 0, 1) := by decide +kernel
theorem dX4_takeSettings_46 : decode cX4_takeSettings 46 = .ok (.getfield 9, 3) := by decide +kernel
theorem dX4_takeSettings_49 : decode cX4_takeSettings 49 = .ok (.iconst 0, 1) := by decide +kernel
theorem dX4_takeSettings_50 : decode cX4_takeSettings 50 = .ok (.iconst 4, 1) := by decide +kernel
theorem dX4_takeSettings_51 : decode cX4_takeSettings 51 = .ok (.invokestatic 42, 3) := by decide +kernel
theorem dX4_takeSettings_54 : decode cX4_takeSettings 54 = .ok (.return_, 1) := by decide +kernel
theorem dX4_isLike_0 : decode cX4_isLike 0 = .ok (.aload_n 0, 1) := by decide +kernel
theorem dX4_isLike_1 : decode cX4_isLike 1 = .ok (.getfield 26, 3) := by decide +kernel
theorem dX4_isLike_4 : decode cX4_isLike 4 = .ok (.aload_n 1, 1) := by decide +kernel
theorem dX4_isLike_5 : decode cX4_isLike 5 = .ok (.getfield 26, 3) := by decide +kernel
theorem dX4_isLike_8 : decode cX4_isLike 8 = .ok (.if_icmp .ne 29, 3) := by decide +kernel
theorem dX4_isLike_11 : decode cX4_isLike 11 = .ok (.aload_n 0, 1) := by decide +kernel
theorem dX4_isLike_12 : decode cX4_isLike 12 = .ok (.getfield 29, 3) := by decide +kernel
theorem dX4_isLike_15 : decode cX4_isLike 15 = .ok (.aload_n 1, 1) := by decide +kernel
theorem dX4_isLike_16 : decode cX4_isLike 16 = .ok (.getfield 29, 3) := by decide +kernel
theorem dX4_isLike_19 : decode cX4_isLike 19 = .ok (.if_icmp .ne 18, 3) := by decide +kernel
theorem dX4_isLike_22 : decode cX4_isLike 22 = .ok (.aload_n 0, 1) := by decide +kernel
theorem dX4_isLike_23 : decode cX4_isLike 23 = .ok (.getfield 32, 3) := by decide +kernel
theorem dX4_isLike_26 : decode cX4_isLike 26 = .ok (.aload_n 1, 1) := by decide +kernel
theorem dX4_isLike_27 : decode cX4_isLike 27 = .ok (.getfield 32, 3) := by decide +kernel
theorem dX4_isLike_30 : decode cX4_isLike 30 = .ok (.if_icmp .ne 7, 3) := by decide +kernel
theorem dX4_isLike_33 : decode cX4_isLike 33 = .ok (.iconst 1, 1) := by decide +kernel
theorem dX4_isLike_34 : decode cX4_isLike 34 = .ok (.goto 4, 3) := by decide +kernel
theorem dX4_isLike_37 : decode cX4_isLike 37 = .ok (.iconst 0, 1) := by decide +kernel
theorem dX4_isLike_38 : decode cX4_isLike 38 = .ok (.ireturn, 1) := by decide +kernel
theorem dX4_hasRoomFor_0 : decode cX4_hasRoomFor 0 = .ok (.aload_n 0, 1) := by decide +kernel
theorem dX4_hasRoomFor_1 : decode cX4_hasRoomFor 1 = .ok (.getfield 35, 3) := by decide +kernel
theorem dX4_hasRoomFor_4 : decode cX4_hasRoomFor 4 = .ok (.ifCond .ne 14, 3) := by decide +kernel
theorem dX4_hasRoomFor_7 : decode cX4_hasRoomFor 7 = .ok (.aload_n 0, 1) := by decide +kernel
theorem dX4_hasRoomFor_8 : decode cX4_hasRoomFor 8 = .ok (.getfield 22, 3) := by decide +kernel
theorem dX4_hasRoomFor_11 : decode cX4_hasRoomFor 11 = .ok (.iload_n 1, 1) := by decide +kernel
theorem dX4_hasRoomFor_12 : decode cX4_hasRoomFor 12 = .ok (.iadd, 1) := by decide +kernel
theorem dX4_hasRoomFor_13 : decode cX4_hasRoomFor 13 = .ok (.bipush 60, 2) := by decide +kernel
theorem dX4_hasRoomFor_15 : decode cX4_hasRoomFor 15 = .ok (.if_icmp .gt 7, 3) := by decide +kernel
theorem dX4_hasRoomFor_18 : decode cX4_hasRoomFor 18 = .ok (.iconst 1, 1) := by decide +kernel
theorem dX4_hasRoomFor_19 : decode cX4_hasRoomFor 19 = .ok (.goto 4, 3) := by decide +kernel
theorem dX4_hasRoomFor_22 : decode cX4_hasRoomFor 22 = .ok (.iconst 0, 1) := by decide +kernel
theorem dX4_hasRoomFor_23 : decode cX4_hasRoomFor 23 = .ok (.ireturn, 1) := by decide +kernel
theorem dX4_partAt_0 : decode cX4_partAt 0 = .ok (.iload_n 1, 1) := by decide +kernel
theorem dX4_partAt_1 : decode cX4_partAt 1 = .ok (.ifCond .lt 26, 3) := by decide +kernel
theorem dX4_partAt_4 : decode cX4_partAt 4 = .ok (.iload_n 1, 1) := by decide +kernel
theorem dX4_partAt_5 : decode cX4_partAt 5 = .ok (.aload_n 0, 1) := by decide +kernel
theorem dX4_partAt_6 : decode cX4_partAt 6 = .ok (.getfield 22, 3) := by decide +kernel
theorem dX4_partAt_9 : decode cX4_partAt 9 = .ok (.if_icmp .ge 18, 3) := by decide +kernel
theorem dX4_partAt_12 : decode cX4_partAt 12 = .ok (.iload_n 1, 1) := by decide +kernel
theorem dX4_partAt_13 : decode cX4_partAt 13 = .ok (.bipush 60, 2) := by decide +kernel
theorem dX4_partAt_15 : decode cX4_partAt 15 = .ok (.if_icmp .ge 12, 3) := by decide +kernel
theorem dX4_partAt_18 : decode cX4_partAt 18 = .ok (.iload_n 2, 1) := by decide +kernel
theorem dX4_partAt_19 : decode cX4_partAt 19 = .ok (.ifCond .lt 8, 3) := by decide +kernel
theorem dX4_partAt_22 : decode cX4_partAt 22 = .ok (.iload_n 2, 1) := by decide +kernel
theorem dX4_partAt_23 : decode cX4_partAt 23 = .ok (.iconst 5, 1) := by decide +kernel
theorem dX4_partAt_24 : decode cX4_partAt 24 = .ok (.if_icmp .lt 5, 3) := by decide +kernel
theorem dX4_partAt_27 : decode cX4_partAt 27 = .ok (.iconst 0, 1) := by decide +kernel
theorem dX4_partAt_28 : decode cX4_partAt 28 = .ok (.ireturn, 1) := by decide +kernel
theorem dX4_partAt_29 : decode cX4_partAt 29 = .ok (.aload_n 0, 1) := by decide +kernel
theorem dX4_partAt_30 : decode cX4_partAt 30 = .ok (.getfield 15, 3) := by decide +kernel
theorem dX4_partAt_33 : decode cX4_partAt 33 = .ok (.iload_n 1, 1) := by decide +kernel
theorem dX4_partAt_34 : decode cX4_partAt 34 = .ok (.iconst 5, 1) := by decide +kernel
theorem dX4_partAt_35 : decode cX4_partAt 35 = .ok (.imul, 1) := by decide +kernel
theorem dX4_partAt_36 : decode cX4_partAt 36 = .ok (.iload_n 2, 1) := by decide +kernel
theorem dX4_partAt_37 : decode cX4_partAt 37 = .ok (.iadd, 1) := by decide +kernel
theorem dX4_partAt_38 : decode cX4_partAt 38 = .ok (.iaload, 1) := by decide +kernel
theorem dX4_partAt_39 : decode cX4_partAt 39 = .ok (.ireturn, 1) := by decide +kernel
theorem dX4_lastNumber_0 : decode cX4_lastNumber 0 = .ok (.aload_n 0, 1) := by decide +kernel
theorem dX4_lastNumber_1 : decode cX4_lastNumber 1 = .ok (.getfield 22, 3) := by decide +kernel
theorem dX4_lastNumber_4 : decode cX4_lastNumber 4 = .ok (.ifCond .ne 7, 3) := by decide +kernel
theorem dX4_lastNumber_7 : decode cX4_lastNumber 7 = .ok (.iconst (-1), 1) := by decide +kernel
theorem dX4_lastNumber_8 : decode cX4_lastNumber 8 = .ok (.goto 14, 3) := by decide +kernel
theorem dX4_lastNumber_11 : decode cX4_lastNumber 11 = .ok (.aload_n 0, 1) := by decide +kernel
theorem dX4_lastNumber_12 : decode cX4_lastNumber 12 = .ok (.aload_n 0, 1) := by decide +kernel
theorem dX4_lastNumber_13 : decode cX4_lastNumber 13 = .ok (.getfield 22, 3) := by decide +kernel
theorem dX4_lastNumber_16 : decode cX4_lastNumber 16 = .ok (.iconst 1, 1) := by decide +kernel
theorem dX4_lastNumber_17 : decode cX4_lastNumber 17 = .ok (.isub, 1) := by decide +kernel
theorem dX4_lastNumber_18 : decode cX4_lastNumber 18 = .ok (.iconst 0, 1) := by decide +kernel
theorem dX4_lastNumber_19 : decode cX4_lastNumber 19 = .ok (.invokevirtual 48, 3) := by decide +kernel
theorem dX4_lastNumber_22 : decode cX4_lastNumber 22 = .ok (.ireturn, 1) := by decide +kernel
theorem dX4_push_0 : decode cX4_push 0 = .ok (.aload_n 0, 1) := by decide +kernel
theorem dX4_push_1 : decode cX4_push 1 = .ok (.getfield 35, 3) := by decide +kernel
theorem dX4_push_4 : decode cX4_push 4 = .ok (.ifCond .eq 18, 3) := by decide +kernel
theorem dX4_push_7 : decode cX4_push 7 = .ok (.aload_n 0, 1) := by decide +kernel
theorem dX4_push_8 : decode cX4_push 8 = .ok (.getfield 22, 3) := by decide +kernel
theorem dX4_push_11 : decode cX4_push 11 = .ok (.aload_n 0, 1) := by decide +kernel
theorem dX4_push_12 : decode cX4_push 12 = .ok (.getfield 35, 3) := by decide +kernel
theorem dX4_push_15 : decode cX4_push 15 = .ok (.if_icmp .lt 7, 3) := by decide +kernel
theorem dX4_push_18 : decode cX4_push 18 = .ok (.aload_n 0, 1) := by decide +kernel
theorem dX4_push_19 : decode cX4_push 19 = .ok (.invokevirtual 52, 3) := by decide +kernel
theorem dX4_push_22 : decode cX4_push 22 = .ok (.aload_n 0, 1) := by decide +kernel
theorem dX4_push_23 : decode cX4_push 23 = .ok (.getfield 22, 3) := by decide +kernel
theorem dX4_push_26 : decode cX4_push 26 = .ok (.ifCond .lt 12, 3) := by decide +kernel
theorem dX4_push_29 : decode cX4_push 29 = .ok (.aload_n 0, 1) := by decide +kernel
theorem dX4_push_30 : decode cX4_push 30 = .ok (.getfield 22, 3) := by decide +kernel
theorem dX4_push_33 : decode cX4_push 33 = .ok (.bipush 60, 2) := by decide +kernel
theorem dX4_push_35 : decode cX4_push 35 = .ok (.if_icmp .lt 4, 3) := by decide +kernel
theorem dX4_push_38 : decode cX4_push 38 = .ok (.return_, 1) := by decide +kernel
theorem dX4_push_39 : decode cX4_push 39 = .ok (.aload_n 0, 1) := by decide +kernel
theorem dX4_push_40 : decode cX4_push 40 = .ok (.getfield 22, 3) := by decide +kernel
theorem dX4_push_43 : decode cX4_push 43 = .ok (.iconst 5, 1) := by decide +kernel
theorem dX4_push_44 : decode cX4_push 44 = .ok (.imul, 1) := by decide +kernel
theorem dX4_push_45 : decode cX4_push 45 = .ok (.istore 6, 2) := by decide +kernel
theorem dX4_push_47 : decode cX4_push 47 = .ok (.aload_n 0, 1) := by decide +kernel
theorem dX4_push_48 : decode cX4_push 48 = .ok (.getfield 15, 3) := by decide +kernel
theorem dX4_push_51 : decode cX4_push 51 = .ok (.iload 6, 2) := by decide +kernel
theorem dX4_push_53 : decode cX4_push 53 = .ok (.iconst 0, 1) := by decide +kernel
theorem dX4_push_54 : decode cX4_push 54 = .ok (.iadd, 1) := by decide +kernel
theorem dX4_push_55 : decode cX4_push 55 = .ok (.iload_n 1, 1) := by decide +kernel
theorem dX4_push_56 : decode cX4_push 56 = .ok (.iastore, 1) := by decide +kernel
theorem dX4_push_57 : decode cX4_push 57 = .ok (.aload_n 0, 1) := by decide +kernel
theorem dX4_push_58 : decode cX4_push 58 = .ok (.getfield 15, 3) := by decide +kernel
theorem dX4_push_61 : decode cX4_push 61 = .ok (.iload 6, 2) := by decide +kernel
theorem dX4_push_63 : decode cX4_push 63 = .ok (.iconst 1, 1) := by decide +kernel
theorem dX4_push_64 : decode cX4_push 64 = .ok (.iadd, 1) := by decide +kernel
theorem dX4_push_65 : decode cX4_push 65 = .ok (.iload_n 2, 1) := by decide +kernel
theorem dX4_push_66 : decode cX4_push 66 = .ok (.iastore, 1) := by decide +kernel
theorem dX4_push_67 : decode cX4_push 67 = .ok (.aload_n 0, 1) := by decide +kernel
theorem dX4_push_68 : decode cX4_push 68 = .ok (.getfield 15, 3) := by decide +kernel
theorem dX4_push_71 : decode cX4_push 71 = .ok (.iload 6, 2) := by decide +kernel
theorem dX4_push_73 : decode cX4_push 73 = .ok (.iconst 2, 1) := by decide +kernel
theorem dX4_push_74 : decode cX4_push 74 = .ok (.iadd, 1) := by decide +kernel
theorem dX4_push_75 : decode cX4_push 75 = .ok (.iload_n 3, 1) := by decide +kernel
theorem dX4_push_76 : decode cX4_push 76 = .ok (.iastore, 1) := by decide +kernel
theorem dX4_push_77 : decode cX4_push 77 = .ok (.aload_n 0, 1) := by decide +kernel
theorem dX4_push_78 : decode cX4_push 78 = .ok (.getfield 15, 3) := by decide +kernel
theorem dX4_push_81 : decode cX4_push 81 = .ok (.iload 6, 2) := by decide +kernel
theorem dX4_push_83 : decode cX4_push 83 = .ok (.iconst 3, 1) := by decide +kernel
theorem dX4_push_84 : decode cX4_push 84 = .ok (.iadd, 1) := by decide +kernel
theorem dX4_push_85 : decode cX4_push 85 = .ok (.iload 4, 2) := by decide +kernel
theorem dX4_push_87 : decode cX4_push 87 = .ok (.iastore, 1) := by decide +kernel
theorem dX4_push_88 : decode cX4_push 88 = .ok (.aload_n 0, 1) := by decide +kernel
theorem dX4_push_89 : decode cX4_push 89 = .ok (.getfield 15, 3) := by decide +kernel
theorem dX4_push_92 : decode cX4_push 92 = .ok (.iload 6, 2) := by decide +kernel
theorem dX4_push_94 : decode cX4_push 94 = .ok (.iconst 4, 1) := by decide +kernel
theorem dX4_push_95 : decode cX4_push 95 = .ok (.iadd, 1) := by decide +kernel
theorem dX4_push_96 : decode cX4_push 96 = .ok (.iload 5, 2) := by decide +kernel
theorem dX4_push_98 : decode cX4_push 98 = .ok (.iastore, 1) := by decide +kernel
theorem dX4_push_99 : decode cX4_push 99 = .ok (.aload_n 0, 1) := by decide +kernel
theorem dX4_push_100 : decode cX4_push 100 = .ok (.dup, 1) := by decide +kernel
theorem dX4_push_101 : decode cX4_push 101 = .ok (.getfield 22, 3) := by decide +kernel
theorem dX4_push_104 : decode cX4_push 104 = .ok (.iconst 1, 1) := by decide +kernel
theorem dX4_push_105 : decode cX4_push 105 = .ok (.iadd, 1) := by decide +kernel
theorem dX4_push_106 : decode cX4_push 106 = .ok (.putfield 22, 3) := by decide +kernel
theorem dX4_push_109 : decode cX4_push 109 = .ok (.return_, 1) := by decide +kernel
theorem dX4_removeFirst_0 : decode cX4_removeFirst 0 = .ok (.aload_n 0, 1) := by decide +kernel
theorem dX4_removeFirst_1 : decode cX4_removeFirst 1 = .ok (.getfield 22, 3) := by decide +kernel
theorem dX4_removeFirst_4 : decode cX4_removeFirst 4 = .ok (.iconst 1, 1) := by decide +kernel
theorem dX4_removeFirst_5 : decode cX4_removeFirst 5 = .ok (.if_icmp .lt 12, 3) := by decide +kernel
theorem dX4_removeFirst_8 : decode cX4_removeFirst 8 = .ok (.aload_n 0, 1) := by decide +kernel
theorem dX4_removeFirst_9 : decode cX4_removeFirst 9 = .ok (.getfield 22, 3) := by decide +kernel
theorem dX4_removeFirst_12 : decode cX4_removeFirst 12 = .ok (.bipush 60, 2) := by decide +kernel
theorem dX4_removeFirst_14 : decode cX4_removeFirst 14 = .ok (.if_icmp .le 4, 3) := by decide +kernel
theorem dX4_removeFirst_17 : decode cX4_removeFirst 17 = .ok (.return_, 1) := by decide +kernel
theorem dX4_removeFirst_18 : decode cX4_removeFirst 18 = .ok (.aload_n 0, 1) := by decide +kernel
theorem dX4_removeFirst_19 : decode cX4_removeFirst 19 = .ok (.getfield 15, 3) := by decide +kernel
theorem dX4_removeFirst_22 : decode cX4_removeFirst 22 = .ok (.iconst 5, 1) := by decide +kernel
theorem dX4_removeFirst_23 : decode cX4_removeFirst 23 = .ok (.aload_n 0, 1) := by decide +kernel
theorem dX4_removeFirst_24 : decode cX4_removeFirst 24 = .ok (.getfield 15, 3) := by decide +kernel
theorem dX4_removeFirst_27 : decode cX4_removeFirst 27 = .ok (.iconst 0, 1) := by decide +kernel
theorem dX4_removeFirst_28 : decode cX4_removeFirst 28 = .ok (.aload_n 0, 1) := by decide +kernel
theorem dX4_removeFirst_29 : decode cX4_removeFirst 29 = .ok (.getfield 22, 3) := by decide +kernel
theorem dX4_removeFirst_32 : decode cX4_removeFirst 32 = .ok (.iconst 1, 1) := by decide +kernel
theorem dX4_removeFirst_33 : decode cX4_removeFirst 33 = .ok (.isub, 1) := by decide +kernel
theorem dX4_removeFirst_34 : decode cX4_removeFirst 34 = .ok (.iconst 5, 1) := by decide +kernel
theorem dX4_removeFirst_35 : decode cX4_removeFirst 35 = .ok (.imul, 1) := by decide +kernel
theorem dX4_removeFirst_36 : decode cX4_removeFirst 36 = .ok (.invokestatic 42, 3) := by decide +kernel
theorem dX4_removeFirst_39 : decode cX4_removeFirst 39 = .ok (.aload_n 0, 1) := by decide +kernel
theorem dX4_removeFirst_40 : decode cX4_removeFirst 40 = .ok (.dup, 1) := by decide +kernel
theorem dX4_removeFirst_41 : decode cX4_removeFirst 41 = .ok (.getfield 22, 3) := by decide +kernel
theorem dX4_removeFirst_44 : decode cX4_removeFirst 44 = .ok (.iconst 1, 1) := by decide +kernel
theorem dX4_removeFirst_45 : decode cX4_removeFirst 45 = .ok (.isub, 1) := by decide +kernel
theorem dX4_removeFirst_46 : decode cX4_removeFirst 46 = .ok (.putfield 22, 3) := by decide +kernel
theorem dX4_removeFirst_49 : decode cX4_removeFirst 49 = .ok (.return_, 1) := by decide +kernel
theorem dX4_pushFrom_0 : decode cX4_pushFrom 0 = .ok (.aload_n 0, 1) := by decide +kernel
theorem dX4_pushFrom_1 : decode cX4_pushFrom 1 = .ok (.aload_n 1, 1) := by decide +kernel
theorem dX4_pushFrom_2 : decode cX4_pushFrom 2 = .ok (.iload_n 2, 1) := by decide +kernel
theorem dX4_pushFrom_3 : decode cX4_pushFrom 3 = .ok (.iconst 0, 1) := by decide +kernel
theorem dX4_pushFrom_4 : decode cX4_pushFrom 4 = .ok (.invokevirtual 48, 3) := by decide +kernel
theorem dX4_pushFrom_7 : decode cX4_pushFrom 7 = .ok (.aload_n 1, 1) := by decide +kernel
theorem dX4_pushFrom_8 : decode cX4_pushFrom 8 = .ok (.iload_n 2, 1) := by decide +kernel
theorem dX4_pushFrom_9 : decode cX4_pushFrom 9 = .ok (.iconst 1, 1) := by decide +kernel
theorem dX4_pushFrom_10 : decode cX4_pushFrom 10 = .ok (.invokevirtual 48, 3) := by decide +kernel
theorem dX4_pushFrom_13 : decode cX4_pushFrom 13 = .ok (.aload_n 1, 1) := by decide +kernel
theorem dX4_pushFrom_14 : decode cX4_pushFrom 14 = .ok (.iload_n 2, 1) := by decide +kernel
theorem dX4_pushFrom_15 : decode cX4_pushFrom 15 = .ok (.iconst 2, 1) := by decide +kernel
theorem dX4_pushFrom_16 : decode cX4_pushFrom 16 = .ok (.invokevirtual 48, 3) := by decide +kernel
theorem dX4_pushFrom_19 : decode cX4_pushFrom 19 = .ok (.aload_n 1, 1) := by decide +kernel
theorem dX4_pushFrom_20 : decode cX4_pushFrom 20 = .ok (.iload_n 2, 1) := by decide +kernel
theorem dX4_pushFrom_21 : decode cX4_pushFrom 21 = .ok (.iconst 3, 1) := by decide +kernel
theorem dX4_pushFrom_22 : decode cX4_pushFrom 22 = .ok (.invokevirtual 48, 3) := by decide +kernel
theorem dX4_pushFrom_25 : decode cX4_pushFrom 25 = .ok (.aload_n 1, 1) := by decide +kernel
theorem dX4_pushFrom_26 : decode cX4_pushFrom 26 = .ok (.iload_n 2, 1) := by decide +kernel
theorem dX4_pushFrom_27 : decode cX4_pushFrom 27 = .ok (.iconst 4, 1) := by decide +kernel
theorem dX4_pushFrom_28 : decode cX4_pushFrom 28 = .ok (.invokevirtual 48, 3) := by decide +kernel
theorem dX4_pushFrom_31 : decode cX4_pushFrom 31 = .ok (.invokevirtual 55, 3) := by decide +kernel
theorem dX4_pushFrom_34 : decode cX4_pushFrom 34 = .ok (.return_, 1) := by decide +kernel
theorem dX4_join_0 : decode cX4_join 0 = .ok (.aload_n 0, 1) := by decide +kernel
theorem dX4_join_1 : decode cX4_join 1 = .ok (.aload_n 2, 1) := by decide +kernel
theorem dX4_join_2 : decode cX4_join 2 = .ok (.invokevirtual 38, 3) := by decide +kernel
theorem dX4_join_5 : decode cX4_join 5 = .ok (.aload_n 0, 1) := by decide +kernel
theorem dX4_join_6 : decode cX4_join 6 = .ok (.iconst 0, 1) := by decide +kernel
theorem dX4_join_7 : decode cX4_join 7 = .ok (.putfield 22, 3) := by decide +kernel
theorem dX4_join_10 : decode cX4_join 10 = .ok (.iconst 0, 1) := by decide +kernel
theorem dX4_join_11 : decode cX4_join 11 = .ok (.istore_n 3, 1) := by decide +kernel
theorem dX4_join_12 : decode cX4_join 12 = .ok (.iconst 0, 1) := by decide +kernel
theorem dX4_join_13 : decode cX4_join 13 = .ok (.istore 4, 2) := by decide +kernel
theorem dX4_join_15 : decode cX4_join 15 = .ok (.iload 4, 2) := by decide +kernel
theorem dX4_join_17 : decode cX4_join 17 = .ok (.aload_n 2, 1) := by decide +kernel
theorem dX4_join_18 : decode cX4_join 18 = .ok (.getfield 22, 3) := by decide +kernel
theorem dX4_join_21 : decode cX4_join 21 = .ok (.if_icmp .ge 67, 3) := by decide +kernel
theorem dX4_join_24 : decode cX4_join 24 = .ok (.aload_n 2, 1) := by decide +kernel
theorem dX4_join_25 : decode cX4_join 25 = .ok (.iload 4, 2) := by decide +kernel
theorem dX4_join_27 : decode cX4_join 27 = .ok (.iconst 0, 1) := by decide +kernel
theorem dX4_join_28 : decode cX4_join 28 = .ok (.invokevirtual 48, 3) := by decide +kernel
theorem dX4_join_31 : decode cX4_join 31 = .ok (.istore 5, 2) := by decide +kernel
theorem dX4_join_33 : decode cX4_join 33 = .ok (.iload_n 3, 1) := by decide +kernel
theorem dX4_join_34 : decode cX4_join 34 = .ok (.aload_n 1, 1) := by decide +kernel
theorem dX4_join_35 : decode cX4_join 35 = .ok (.getfield 22, 3) := by decide +kernel
theorem dX4_join_38 : decode cX4_join 38 = .ok (.if_icmp .ge 37, 3) := by decide +kernel
theorem dX4_join_41 : decode cX4_join 41 = .ok (.aload_n 1, 1) := by decide +kernel
theorem dX4_join_42 : decode cX4_join 42 = .ok (.iload_n 3, 1) := by decide +kernel
theorem dX4_join_43 : decode cX4_join 43 = .ok (.iconst 0, 1) := by decide +kernel
theorem dX4_join_44 : decode cX4_join 44 = .ok (.invokevirtual 48, 3) := by decide +kernel
theorem dX4_join_47 : decode cX4_join 47 = .ok (.iload 5, 2) := by decide +kernel
theorem dX4_join_49 : decode cX4_join 49 = .ok (.if_icmp .gt 26, 3) := by decide +kernel
theorem dX4_join_52 : decode cX4_join 52 = .ok (.aload_n 1, 1) := by decide +kernel
theorem dX4_join_53 : decode cX4_join 53 = .ok (.iload_n 3, 1) := by decide +kernel
theorem dX4_join_54 : decode cX4_join 54 = .ok (.iconst 0, 1) := by decide +kernel
theorem dX4_join_55 : decode cX4_join 55 = .ok (.invokevirtual 48, 3) := by decide +kernel
theorem dX4_join_58 : decode cX4_join 58 = .ok (.iload 5, 2) := by decide +kernel
theorem dX4_join_60 : decode cX4_join 60 = .ok (.if_icmp .ge 9, 3) := by decide +kernel
theorem dX4_join_63 : decode cX4_join 63 = .ok (.aload_n 0, 1) := by decide +kernel
theorem dX4_join_64 : decode cX4_join 64 = .ok (.aload_n 1, 1) := by decide +kernel
theorem dX4_join_65 : decode cX4_join 65 = .ok (.iload_n 3, 1) := by decide +kernel
theorem dX4_join_66 : decode cX4_join 66 = .ok (.invokevirtual 59, 3) := by decide +kernel
theorem dX4_join_69 : decode cX4_join 69 = .ok (.iinc 3 1, 3) := by decide +kernel
theorem dX4_join_72 : decode cX4_join 72 = .ok (.goto (-39), 3) := by decide +kernel
theorem dX4_join_75 : decode cX4_join 75 = .ok (.aload_n 0, 1) := by decide +kernel
theorem dX4_join_76 : decode cX4_join 76 = .ok (.aload_n 2, 1) := by decide +kernel
theorem dX4_join_77 : decode cX4_join 77 = .ok (.iload 4, 2) := by decide +kernel
theorem dX4_join_79 : decode cX4_join 79 = .ok (.invokevirtual 59, 3) := by decide +kernel
theorem dX4_join_82 : decode cX4_join 82 = .ok (.iinc 4 1, 3) := by decide +kernel
theorem dX4_join_85 : decode cX4_join 85 = .ok (.goto (-70), 3) := by decide +kernel
theorem dX4_join_88 : decode cX4_join 88 = .ok (.iload_n 3, 1) := by decide +kernel
theorem dX4_join_89 : decode cX4_join 89 = .ok (.aload_n 1, 1) := by decide +kernel
theorem dX4_join_90 : decode cX4_join 90 = .ok (.getfield 22, 3) := by decide +kernel
theorem dX4_join_93 : decode cX4_join 93 = .ok (.if_icmp .ge 15, 3) := by decide +kernel
theorem dX4_join_96 : decode cX4_join 96 = .ok (.aload_n 0, 1) := by decide +kernel
theorem dX4_join_97 : decode cX4_join 97 = .ok (.aload_n 1, 1) := by decide +kernel
theorem dX4_join_98 : decode cX4_join 98 = .ok (.iload_n 3, 1) := by decide +kernel
theorem dX4_join_99 : decode cX4_join 99 = .ok (.invokevirtual 59, 3) := by decide +kernel
theorem dX4_join_102 : decode cX4_join 102 = .ok (.iinc 3 1, 3) := by decide +kernel
theorem dX4_join_105 : decode cX4_join 105 = .ok (.goto (-17), 3) := by decide +kernel
theorem dX4_join_108 : decode cX4_join 108 = .ok (.return_, 1) := by decide +kernel
theorem dX4_missingOf_0 : decode cX4_missingOf 0 = .ok (.iconst 0, 1) := by decide +kernel
theorem dX4_missingOf_1 : decode cX4_missingOf 1 = .ok (.istore_n 2, 1) := by decide +kernel
theorem dX4_missingOf_2 : decode cX4_missingOf 2 = .ok (.iconst 0, 1) := by decide +kernel
theorem dX4_missingOf_3 : decode cX4_missingOf 3 = .ok (.istore_n 3, 1) := by decide +kernel
theorem dX4_missingOf_4 : decode cX4_missingOf 4 = .ok (.iload_n 3, 1) := by decide +kernel
theorem dX4_missingOf_5 : decode cX4_missingOf 5 = .ok (.aload_n 1, 1) := by decide +kernel
theorem dX4_missingOf_6 : decode cX4_missingOf 6 = .ok (.getfield 22, 3) := by decide +kernel
theorem dX4_missingOf_9 : decode cX4_missingOf 9 = .ok (.if_icmp .ge 25, 3) := by decide +kernel
theorem dX4_missingOf_12 : decode cX4_missingOf 12 = .ok (.aload_n 0, 1) := by decide +kernel
theorem dX4_missingOf_13 : decode cX4_missingOf 13 = .ok (.aload_n 1, 1) := by decide +kernel
theorem dX4_missingOf_14 : decode cX4_missingOf 14 = .ok (.iload_n 3, 1) := by decide +kernel
theorem dX4_missingOf_15 : decode cX4_missingOf 15 = .ok (.iconst 0, 1) := by decide +kernel
theorem dX4_missingOf_16 : decode cX4_missingOf 16 = .ok (.invokevirtual 48, 3) := by decide +kernel
theorem dX4_missingOf_19 : decode cX4_missingOf 19 = .ok (.invokevirtual 63, 3) := by decide +kernel
theorem dX4_missingOf_22 : decode cX4_missingOf 22 = .ok (.ifCond .ne 6, 3) := by decide +kernel
theorem dX4_missingOf_25 : decode cX4_missingOf 25 = .ok (.iinc 2 1, 3) := by decide +kernel
theorem dX4_missingOf_28 : decode cX4_missingOf 28 = .ok (.iinc 3 1, 3) := by decide +kernel
theorem dX4_missingOf_31 : decode cX4_missingOf 31 = .ok (.goto (-27), 3) := by decide +kernel
theorem dX4_missingOf_34 : decode cX4_missingOf 34 = .ok (.iload_n 2, 1) := by decide +kernel
theorem dX4_missingOf_35 : decode cX4_missingOf 35 = .ok (.ireturn, 1) := by decide +kernel
theorem dX4_hasNumber_0 : decode cX4_hasNumber 0 = .ok (.iconst 0, 1) := by decide +kernel
theorem dX4_hasNumber_1 : decode cX4_hasNumber 1 = .ok (.istore_n 2, 1) := by decide +kernel
theorem dX4_hasNumber_2 : decode cX4_hasNumber 2 = .ok (.iload_n 2, 1) := by decide +kernel
theorem dX4_hasNumber_3 : decode cX4_hasNumber 3 = .ok (.aload_n 0, 1) := by decide +kernel
theorem dX4_hasNumber_4 : decode cX4_hasNumber 4 = .ok (.getfield 22, 3) := by decide +kernel
theorem dX4_hasNumber_7 : decode cX4_hasNumber 7 = .ok (.if_icmp .ge 21, 3) := by decide +kernel
theorem dX4_hasNumber_10 : decode cX4_hasNumber 10 = .ok (.aload_n 0, 1) := by decide +kernel
theorem dX4_hasNumber_11 : decode cX4_hasNumber 11 = .ok (.iload_n 2, 1) := by decide +kernel
theorem dX4_hasNumber_12 : decode cX4_hasNumber 12 = .ok (.iconst 0, 1) := by decide +kernel
theorem dX4_hasNumber_13 : decode cX4_hasNumber 13 = .ok (.invokevirtual 48, 3) := by decide +kernel
theorem dX4_hasNumber_16 : decode cX4_hasNumber 16 = .ok (.iload_n 1, 1) := by decide +kernel
theorem dX4_hasNumber_17 : decode cX4_hasNumber 17 = .ok (.if_icmp .ne 5, 3) := by decide +kernel
theorem dX4_hasNumber_20 : decode cX4_hasNumber 20 = .ok (.iconst 1, 1) := by decide +kernel
theorem dX4_hasNumber_21 : decode cX4_hasNumber 21 = .ok (.ireturn, 1) := by decide +kernel
theorem dX4_hasNumber_22 : decode cX4_hasNumber 22 = .ok (.iinc 2 1, 3) := by decide +kernel
theorem dX4_hasNumber_25 : decode cX4_hasNumber 25 = .ok (.goto (-23), 3) := by decide +kernel
theorem dX4_hasNumber_28 : decode cX4_hasNumber 28 = .ok (.iconst 0, 1) := by decide +kernel
theorem dX4_hasNumber_29 : decode cX4_hasNumber 29 = .ok (.ireturn, 1) := by decide +kernel
theorem dX4_quotaOf_0 : decode cX4_quotaOf 0 = .ok (.iload_n 1, 1) := by decide +kernel
theorem dX4_quotaOf_1 : decode cX4_quotaOf 1 = .ok (.ifCond .lt 8, 3) := by decide +kernel
theorem dX4_quotaOf_4 : decode cX4_quotaOf 4 = .ok (.iload_n 1, 1) := by decide +kernel
theorem dX4_quotaOf_5 : decode cX4_quotaOf 5 = .ok (.iconst 4, 1) := by decide +kernel
theorem dX4_quotaOf_6 : decode cX4_quotaOf 6 = .ok (.if_icmp .lt 7, 3) := by decide +kernel
theorem dX4_quotaOf_9 : decode cX4_quotaOf 9 = .ok (.iconst 0, 1) := by decide +kernel
theorem dX4_quotaOf_10 : decode cX4_quotaOf 10 = .ok (.goto 9, 3) := by decide +kernel
theorem dX4_quotaOf_13 : decode cX4_quotaOf 13 = .ok (.aload_n 0, 1) := by decide +kernel
theorem dX4_quotaOf_14 : decode cX4_quotaOf 14 = .ok (.getfield 9, 3) := by decide +kernel
theorem dX4_quotaOf_17 : decode cX4_quotaOf 17 = .ok (.iload_n 1, 1) := by decide +kernel
theorem dX4_quotaOf_18 : decode cX4_quotaOf 18 = .ok (.iaload, 1) := by decide +kernel
theorem dX4_quotaOf_19 : decode cX4_quotaOf 19 = .ok (.ireturn, 1) := by decide +kernel
theorem dX4_putQuota_0 : decode cX4_putQuota 0 = .ok (.iload_n 1, 1) := by decide +kernel
theorem dX4_putQuota_1 : decode cX4_putQuota 1 = .ok (.ifCond .lt 15, 3) := by decide +kernel
theorem dX4_putQuota_4 : decode cX4_putQuota 4 = .ok (.iload_n 1, 1) := by decide +kernel
theorem dX4_putQuota_5 : decode cX4_putQuota 5 = .ok (.iconst 4, 1) := by decide +kernel
theorem dX4_putQuota_6 : decode cX4_putQuota 6 = .ok (.if_icmp .ge 10, 3) := by decide +kernel
theorem dX4_putQuota_9 : decode cX4_putQuota 9 = .ok (.aload_n 0, 1) := by decide +kernel
theorem dX4_putQuota_10 : decode cX4_putQuota 10 = .ok (.getfield 9, 3) := by decide +kernel
theorem dX4_putQuota_13 : decode cX4_putQuota 13 = .ok (.iload_n 1, 1) := by decide +kernel
theorem dX4_putQuota_14 : decode cX4_putQuota 14 = .ok (.iload_n 2, 1) := by decide +kernel
theorem dX4_putQuota_15 : decode cX4_putQuota 15 = .ok (.iastore, 1) := by decide +kernel
theorem dX4_putQuota_16 : decode cX4_putQuota 16 = .ok (.return_, 1) := by decide +kernel
theorem dX4_limitFor_0 : decode cX4_limitFor 0 = .ok (.aload_n 0, 1) := by decide +kernel
theorem dX4_limitFor_1 : decode cX4_limitFor 1 = .ok (.getfield 26, 3) := by decide +kernel
theorem dX4_limitFor_4 : decode cX4_limitFor 4 = .ok (.iconst 2, 1) := by decide +kernel
theorem dX4_limitFor_5 : decode cX4_limitFor 5 = .ok (.if_icmp .ne 16, 3) := by decide +kernel
theorem dX4_limitFor_8 : decode cX4_limitFor 8 = .ok (.aload_n 0, 1) := by decide +kernel
theorem dX4_limitFor_9 : decode cX4_limitFor 9 = .ok (.aload_n 0, 1) := by decide +kernel
theorem dX4_limitFor_10 : decode cX4_limitFor 10 = .ok (.iload_n 1, 1) := by decide +kernel
theorem dX4_limitFor_11 : decode cX4_limitFor 11 = .ok (.iconst 2, 1) := by decide +kernel
theorem dX4_limitFor_12 : decode cX4_limitFor 12 = .ok (.invokevirtual 48, 3) := by decide +kernel
theorem dX4_limitFor_15 : decode cX4_limitFor 15 = .ok (.invokevirtual 67, 3) := by decide +kernel
theorem dX4_limitFor_18 : decode cX4_limitFor 18 = .ok (.goto 7, 3) := by decide +kernel
theorem dX4_limitFor_21 : decode cX4_limitFor 21 = .ok (.aload_n 0, 1) := by decide +kernel
theorem dX4_limitFor_22 : decode cX4_limitFor 22 = .ok (.getfield 29, 3) := by decide +kernel
theorem dX4_limitFor_25 : decode cX4_limitFor 25 = .ok (.ireturn, 1) := by decide +kernel
theorem dX4_mixAt_0 : decode cX4_mixAt 0 = .ok (.aload_n 0, 1) := by decide +kernel
theorem dX4_mixAt_1 : decode cX4_mixAt 1 = .ok (.getfield 32, 3) := by decide +kernel
theorem dX4_mixAt_4 : decode cX4_mixAt 4 = .ok (.aload_n 0, 1) := by decide +kernel
theorem dX4_mixAt_5 : decode cX4_mixAt 5 = .ok (.iload_n 1, 1) := by decide +kernel
theorem dX4_mixAt_6 : decode cX4_mixAt 6 = .ok (.aload_n 0, 1) := by decide +kernel
theorem dX4_mixAt_7 : decode cX4_mixAt 7 = .ok (.getfield 26, 3) := by decide +kernel
theorem dX4_mixAt_10 : decode cX4_mixAt 10 = .ok (.iconst 3, 1) := by decide +kernel
theorem dX4_mixAt_11 : decode cX4_mixAt 11 = .ok (.if_icmp .ne 7, 3) := by decide +kernel
theorem dX4_mixAt_14 : decode cX4_mixAt 14 = .ok (.iconst 1, 1) := by decide +kernel
theorem dX4_mixAt_15 : decode cX4_mixAt 15 = .ok (.goto 4, 3) := by decide +kernel
theorem dX4_mixAt_18 : decode cX4_mixAt 18 = .ok (.iconst 0, 1) := by decide +kernel
theorem dX4_mixAt_19 : decode cX4_mixAt 19 = .ok (.invokevirtual 48, 3) := by decide +kernel
theorem dX4_mixAt_22 : decode cX4_mixAt 22 = .ok (.invokestatic 71, 3) := by decide +kernel
theorem dX4_mixAt_25 : decode cX4_mixAt 25 = .ok (.lreturn, 1) := by decide +kernel
theorem dX4_isFirstOfKey_0 : decode cX4_isFirstOfKey 0 = .ok (.aload_n 0, 1) := by decide +kernel
theorem dX4_isFirstOfKey_1 : decode cX4_isFirstOfKey 1 = .ok (.iload_n 1, 1) := by decide +kernel
theorem dX4_isFirstOfKey_2 : decode cX4_isFirstOfKey 2 = .ok (.iconst 1, 1) := by decide +kernel
theorem dX4_isFirstOfKey_3 : decode cX4_isFirstOfKey 3 = .ok (.invokevirtual 48, 3) := by decide +kernel
theorem dX4_isFirstOfKey_6 : decode cX4_isFirstOfKey 6 = .ok (.istore_n 2, 1) := by decide +kernel
theorem dX4_isFirstOfKey_7 : decode cX4_isFirstOfKey 7 = .ok (.iconst 0, 1) := by decide +kernel
theorem dX4_isFirstOfKey_8 : decode cX4_isFirstOfKey 8 = .ok (.istore_n 3, 1) := by decide +kernel
theorem dX4_isFirstOfKey_9 : decode cX4_isFirstOfKey 9 = .ok (.iload_n 3, 1) := by decide +kernel
theorem dX4_isFirstOfKey_10 : decode cX4_isFirstOfKey 10 = .ok (.iload_n 1, 1) := by decide +kernel
theorem dX4_isFirstOfKey_11 : decode cX4_isFirstOfKey 11 = .ok (.if_icmp .ge 29, 3) := by decide +kernel
theorem dX4_isFirstOfKey_14 : decode cX4_isFirstOfKey 14 = .ok (.iload_n 3, 1) := by decide +kernel
theorem dX4_isFirstOfKey_15 : decode cX4_isFirstOfKey 15 = .ok (.aload_n 0, 1) := by decide +kernel
theorem dX4_isFirstOfKey_16 : decode cX4_isFirstOfKey 16 = .ok (.getfield 22, 3) := by decide +kernel
theorem dX4_isFirstOfKey_19 : decode cX4_isFirstOfKey 19 = .ok (.if_icmp .ge 21, 3) := by decide +kernel
theorem dX4_isFirstOfKey_22 : decode cX4_isFirstOfKey 22 = .ok (.aload_n 0, 1) := by decide +kernel
theorem dX4_isFirstOfKey_23 : decode cX4_isFirstOfKey 23 = .ok (.iload_n 3, 1) := by decide +kernel
theorem dX4_isFirstOfKey_24 : decode cX4_isFirstOfKey 24 = .ok (.iconst 1, 1) := by decide +kernel
theorem dX4_isFirstOfKey_25 : decode cX4_isFirstOfKey 25 = .ok (.invokevirtual 48, 3) := by decide +kernel
theorem dX4_isFirstOfKey_28 : decode cX4_isFirstOfKey 28 = .ok (.iload_n 2, 1) := by decide +kernel
theorem dX4_isFirstOfKey_29 : decode cX4_isFirstOfKey 29 = .ok (.if_icmp .ne 5, 3) := by decide +kernel
theorem dX4_isFirstOfKey_32 : decode cX4_isFirstOfKey 32 = .ok (.iconst 0, 1) := by decide +kernel
theorem dX4_isFirstOfKey_33 : decode cX4_isFirstOfKey 33 = .ok (.ireturn, 1) := by decide +kernel
theorem dX4_isFirstOfKey_34 : decode cX4_isFirstOfKey 34 = .ok (.iinc 3 1, 3) := by decide +kernel
theorem dX4_isFirstOfKey_37 : decode cX4_isFirstOfKey 37 = .ok (.goto (-28), 3) := by decide +kernel
theorem dX4_isFirstOfKey_40 : decode cX4_isFirstOfKey 40 = .ok (.iconst 1, 1) := by decide +kernel
theorem dX4_isFirstOfKey_41 : decode cX4_isFirstOfKey 41 = .ok (.ireturn, 1) := by decide +kernel
theorem dX4_differentKeys_0 : decode cX4_differentKeys 0 = .ok (.iconst 0, 1) := by decide +kernel
theorem dX4_differentKeys_1 : decode cX4_differentKeys 1 = .ok (.istore_n 1, 1) := by decide +kernel
theorem dX4_differentKeys_2 : decode cX4_differentKeys 2 = .ok (.iconst 0, 1) := by decide +kernel
theorem dX4_differentKeys_3 : decode cX4_differentKeys 3 = .ok (.istore_n 2, 1) := by decide +kernel
theorem dX4_differentKeys_4 : decode cX4_differentKeys 4 = .ok (.iload_n 2, 1) := by decide +kernel
theorem dX4_differentKeys_5 : decode cX4_differentKeys 5 = .ok (.aload_n 0, 1) := by decide +kernel
theorem dX4_differentKeys_6 : decode cX4_differentKeys 6 = .ok (.getfield 22, 3) := by decide +kernel
theorem dX4_differentKeys_9 : decode cX4_differentKeys 9 = .ok (.if_icmp .ge 20, 3) := by decide +kernel
theorem dX4_differentKeys_12 : decode cX4_differentKeys 12 = .ok (.aload_n 0, 1) := by decide +kernel
theorem dX4_differentKeys_13 : decode cX4_differentKeys 13 = .ok (.iload_n 2, 1) := by decide +kernel
theorem dX4_differentKeys_14 : decode cX4_differentKeys 14 = .ok (.invokevirtual 75, 3) := by decide +kernel
theorem dX4_differentKeys_17 : decode cX4_differentKeys 17 = .ok (.ifCond .eq 6, 3) := by decide +kernel
theorem dX4_differentKeys_20 : decode cX4_differentKeys 20 = .ok (.iinc 1 1, 3) := by decide +kernel
theorem dX4_differentKeys_23 : decode cX4_differentKeys 23 = .ok (.iinc 2 1, 3) := by decide +kernel
theorem dX4_differentKeys_26 : decode cX4_differentKeys 26 = .ok (.goto (-22), 3) := by decide +kernel
theorem dX4_differentKeys_29 : decode cX4_differentKeys 29 = .ok (.iload_n 1, 1) := by decide +kernel
theorem dX4_differentKeys_30 : decode cX4_differentKeys 30 = .ok (.ireturn, 1) := by decide +kernel
theorem dX4_countOfStratum_0 : decode cX4_countOfStratum 0 = .ok (.iconst 0, 1) := by decide +kernel
theorem dX4_countOfStratum_1 : decode cX4_countOfStratum 1 = .ok (.istore_n 2, 1) := by decide +kernel
theorem dX4_countOfStratum_2 : decode cX4_countOfStratum 2 = .ok (.iconst 0, 1) := by decide +kernel
theorem dX4_countOfStratum_3 : decode cX4_countOfStratum 3 = .ok (.istore_n 3, 1) := by decide +kernel
theorem dX4_countOfStratum_4 : decode cX4_countOfStratum 4 = .ok (.iload_n 3, 1) := by decide +kernel
theorem dX4_countOfStratum_5 : decode cX4_countOfStratum 5 = .ok (.aload_n 0, 1) := by decide +kernel
theorem dX4_countOfStratum_6 : decode cX4_countOfStratum 6 = .ok (.getfield 22, 3) := by decide +kernel
theorem dX4_countOfStratum_9 : decode cX4_countOfStratum 9 = .ok (.if_icmp .ge 22, 3) := by decide +kernel
theorem dX4_countOfStratum_12 : decode cX4_countOfStratum 12 = .ok (.aload_n 0, 1) := by decide +kernel
theorem dX4_countOfStratum_13 : decode cX4_countOfStratum 13 = .ok (.iload_n 3, 1) := by decide +kernel
theorem dX4_countOfStratum_14 : decode cX4_countOfStratum 14 = .ok (.iconst 2, 1) := by decide +kernel
theorem dX4_countOfStratum_15 : decode cX4_countOfStratum 15 = .ok (.invokevirtual 48, 3) := by decide +kernel
theorem dX4_countOfStratum_18 : decode cX4_countOfStratum 18 = .ok (.iload_n 1, 1) := by decide +kernel
theorem dX4_countOfStratum_19 : decode cX4_countOfStratum 19 = .ok (.if_icmp .ne 6, 3) := by decide +kernel
theorem dX4_countOfStratum_22 : decode cX4_countOfStratum 22 = .ok (.iinc 2 1, 3) := by decide +kernel
theorem dX4_countOfStratum_25 : decode cX4_countOfStratum 25 = .ok (.iinc 3 1, 3) := by decide +kernel
theorem dX4_countOfStratum_28 : decode cX4_countOfStratum 28 = .ok (.goto (-24), 3) := by decide +kernel
theorem dX4_countOfStratum_31 : decode cX4_countOfStratum 31 = .ok (.iload_n 2, 1) := by decide +kernel
theorem dX4_countOfStratum_32 : decode cX4_countOfStratum 32 = .ok (.ireturn, 1) := by decide +kernel
theorem dX4_appendTo_0 : decode cX4_appendTo 0 = .ok (.aload_n 1, 1) := by decide +kernel
theorem dX4_appendTo_1 : decode cX4_appendTo 1 = .ok (.aload_n 0, 1) := by decide +kernel
theorem dX4_appendTo_2 : decode cX4_appendTo 2 = .ok (.getfield 26, 3) := by decide +kernel
theorem dX4_appendTo_5 : decode cX4_appendTo 5 = .ok (.invokevirtual 78, 3) := by decide +kernel
theorem dX4_appendTo_8 : decode cX4_appendTo 8 = .ok (.aload_n 1, 1) := by decide +kernel
theorem dX4_appendTo_9 : decode cX4_appendTo 9 = .ok (.bipush 47, 2) := by decide +kernel
theorem dX4_appendTo_11 : decode cX4_appendTo 11 = .ok (.invokevirtual 84, 3) := by decide +kernel
theorem dX4_appendTo_14 : decode cX4_appendTo 14 = .ok (.aload_n 1, 1) := by decide +kernel
theorem dX4_appendTo_15 : decode cX4_appendTo 15 = .ok (.aload_n 0, 1) := by decide +kernel
theorem dX4_appendTo_16 : decode cX4_appendTo 16 = .ok (.getfield 29, 3) := by decide +kernel
theorem dX4_appendTo_19 : decode cX4_appendTo 19 = .ok (.invokevirtual 78, 3) := by decide +kernel
theorem dX4_appendTo_22 : decode cX4_appendTo 22 = .ok (.aload_n 1, 1) := by decide +kernel
theorem dX4_appendTo_23 : decode cX4_appendTo 23 = .ok (.bipush 47, 2) := by decide +kernel
theorem dX4_appendTo_25 : decode cX4_appendTo 25 = .ok (.invokevirtual 84, 3) := by decide +kernel
theorem dX4_appendTo_28 : decode cX4_appendTo 28 = .ok (.aload_n 1, 1) := by decide +kernel
theorem dX4_appendTo_29 : decode cX4_appendTo 29 = .ok (.aload_n 0, 1) := by decide +kernel
theorem dX4_appendTo_30 : decode cX4_appendTo 30 = .ok (.getfield 32, 3) := by decide +kernel
theorem dX4_appendTo_33 : decode cX4_appendTo 33 = .ok (.invokevirtual 78, 3) := by decide +kernel
theorem dX4_appendTo_36 : decode cX4_appendTo 36 = .ok (.aload_n 1, 1) := by decide +kernel
theorem dX4_appendTo_37 : decode cX4_appendTo 37 = .ok (.bipush 47, 2) := by decide +kernel
theorem dX4_appendTo_39 : decode cX4_appendTo 39 = .ok (.invokevirtual 84, 3) := by decide +kernel
theorem dX4_appendTo_42 : decode cX4_appendTo 42 = .ok (.aload_n 1, 1) := by decide +kernel
theorem dX4_appendTo_43 : decode cX4_appendTo 43 = .ok (.aload_n 0, 1) := by decide +kernel
theorem dX4_appendTo_44 : decode cX4_appendTo 44 = .ok (.getfield 35, 3) := by decide +kernel
theorem dX4_appendTo_47 : decode cX4_appendTo 47 = .ok (.invokevirtual 78, 3) := by decide +kernel
theorem dX4_appendTo_50 : decode cX4_appendTo 50 = .ok (.iconst 0, 1) := by decide +kernel
theorem dX4_appendTo_51 : decode cX4_appendTo 51 = .ok (.istore_n 2, 1) := by decide +kernel
theorem dX4_appendTo_52 : decode cX4_appendTo 52 = .ok (.iload_n 2, 1) := by decide +kernel
theorem dX4_appendTo_53 : decode cX4_appendTo 53 = .ok (.aload_n 0, 1) := by decide +kernel
theorem dX4_appendTo_54 : decode cX4_appendTo 54 = .ok (.getfield 22, 3) := by decide +kernel
theorem dX4_appendTo_57 : decode cX4_appendTo 57 = .ok (.if_icmp .ge 47, 3) := by decide +kernel
theorem dX4_appendTo_60 : decode cX4_appendTo 60 = .ok (.iconst 0, 1) := by decide +kernel
theorem dX4_appendTo_61 : decode cX4_appendTo 61 = .ok (.istore_n 3, 1) := by decide +kernel
theorem dX4_appendTo_62 : decode cX4_appendTo 62 = .ok (.iload_n 3, 1) := by decide +kernel
theorem dX4_appendTo_63 : decode cX4_appendTo 63 = .ok (.iconst 5, 1) := by decide +kernel
theorem dX4_appendTo_64 : decode cX4_appendTo 64 = .ok (.if_icmp .ge 34, 3) := by decide +kernel
theorem dX4_appendTo_67 : decode cX4_appendTo 67 = .ok (.aload_n 1, 1) := by decide +kernel
theorem dX4_appendTo_68 : decode cX4_appendTo 68 = .ok (.iload_n 3, 1) := by decide +kernel
theorem dX4_appendTo_69 : decode cX4_appendTo 69 = .ok (.ifCond .ne 8, 3) := by decide +kernel
theorem dX4_appendTo_72 : decode cX4_appendTo 72 = .ok (.bipush 59, 2) := by decide +kernel
theorem dX4_appendTo_74 : decode cX4_appendTo 74 = .ok (.goto 5, 3) := by decide +kernel
theorem dX4_appendTo_77 : decode cX4_appendTo 77 = .ok (.bipush 44, 2) := by decide +kernel
theorem dX4_appendTo_79 : decode cX4_appendTo 79 = .ok (.invokevirtual 84, 3) := by decide +kernel
theorem dX4_appendTo_82 : decode cX4_appendTo 82 = .ok (.aload_n 1, 1) := by decide +kernel
theorem dX4_appendTo_83 : decode cX4_appendTo 83 = .ok (.aload_n 0, 1) := by decide +kernel
theorem dX4_appendTo_84 : decode cX4_appendTo 84 = .ok (.iload_n 2, 1) := by decide +kernel
theorem dX4_appendTo_85 : decode cX4_appendTo 85 = .ok (.iload_n 3, 1) := by decide +kernel
theorem dX4_appendTo_86 : decode cX4_appendTo 86 = .ok (.invokevirtual 48, 3) := by decide +kernel
theorem dX4_appendTo_89 : decode cX4_appendTo 89 = .ok (.invokevirtual 78, 3) := by decide +kernel
theorem dX4_appendTo_92 : decode cX4_appendTo 92 = .ok (.iinc 3 1, 3) := by decide +kernel
theorem dX4_appendTo_95 : decode cX4_appendTo 95 = .ok (.goto (-33), 3) := by decide +kernel
theorem dX4_appendTo_98 : decode cX4_appendTo 98 = .ok (.iinc 2 1, 3) := by decide +kernel
theorem dX4_appendTo_101 : decode cX4_appendTo 101 = .ok (.goto (-49), 3) := by decide +kernel
theorem dX4_appendTo_104 : decode cX4_appendTo 104 = .ok (.return_, 1) := by decide +kernel
theorem dX5_init_0 : decode cX5_init 0 = .ok (.aload_n 0, 1) := by decide +kernel
theorem dX5_init_1 : decode cX5_init 1 = .ok (.invokespecial 1, 3) := by decide +kernel
theorem dX5_init_4 : decode cX5_init 4 = .ok (.aload_n 0, 1) := by decide +kernel
theorem dX5_init_5 : decode cX5_init 5 = .ok (.iconst 4, 1) := by decide +kernel
theorem dX5_init_6 : decode cX5_init 6 = .ok (.anewarray 9, 3) := by decide +kernel
theorem dX5_init_9 : decode cX5_init 9 = .ok (.putfield 11, 3) := by decide +kernel
theorem dX5_init_12 : decode cX5_init 12 = .ok (.aload_n 0, 1) := by decide +kernel
theorem dX5_init_13 : decode cX5_init 13 = .ok (.iconst 4, 1) := by decide +kernel
theorem dX5_init_14 : decode cX5_init 14 = .ok (.anewarray 9, 3) := by decide +kernel
theorem dX5_init_17 : decode cX5_init 17 = .ok (.putfield 15, 3) := by decide +kernel
theorem dX5_init_20 : decode cX5_init 20 = .ok (.iconst 0, 1) := by decide +kernel
theorem dX5_init_21 : decode cX5_init 21 = .ok (.istore_n 1, 1) := by decide +kernel
theorem dX5_init_22 : decode cX5_init 22 = .ok (.iload_n 1, 1) := by decide +kernel
theorem dX5_init_23 : decode cX5_init 23 = .ok (.iconst 4, 1) := by decide +kernel
theorem dX5_init_24 : decode cX5_init 24 = .ok (.if_icmp .ge 35, 3) := by decide +kernel
theorem dX5_init_27 : decode cX5_init 27 = .ok (.aload_n 0, 1) := by decide +kernel
theorem dX5_init_28 : decode cX5_init 28 = .ok (.getfield 11, 3) := by decide +kernel
theorem dX5_init_31 : decode cX5_init 31 = .ok (.iload_n 1, 1) := by decide +kernel
theorem dX5_init_32 : decode cX5_init 32 = .ok (.new 9, 3) := by decide +kernel
theorem dX5_init_35 : decode cX5_init 35 = .ok (.dup, 1) := by decide +kernel
theorem dX5_init_36 : decode cX5_init 36 = .ok (.invokespecial 18, 3) := by decide +kernel
theorem dX5_init_39 : decode cX5_init 39 = .ok (.aastore, 1) := by decide +kernel
theorem dX5_init_40 : decode cX5_init 40 = .ok (.aload_n 0, 1) := by decide +kernel
theorem dX5_init_41 : decode cX5_init 41 = .ok (.getfield 15, 3) := by decide +kernel
theorem dX5_init_44 : decode cX5_init 44 = .ok (.iload_n 1, 1) := by decide +kernel
theorem dX5_init_45 : decode cX5_init 45 = .ok (.new 9, 3) := by decide +kernel
theorem dX5_init_48 : decode cX5_init 48 = .ok (.dup, 1) := by decide +kernel
theorem dX5_init_49 : decode cX5_init 49 = .ok (.invokespecial 18, 3) := by decide +kernel
theorem dX5_init_52 : decode cX5_init 52 = .ok (.aastore, 1) := by decide +kernel
theorem dX5_init_53 : decode cX5_init 53 = .ok (.iinc 1 1, 3) := by decide +kernel
theorem dX5_init_56 : decode cX5_init 56 = .ok (.goto (-34), 3) := by decide +kernel
theorem dX5_init_59 : decode cX5_init 59 = .ok (.aload_n 0, 1) := by decide +kernel
theorem dX5_init_60 : decode cX5_init 60 = .ok (.new 19, 3) := by decide +kernel
theorem dX5_init_63 : decode cX5_init 63 = .ok (.dup, 1) := by decide +kernel
theorem dX5_init_64 : decode cX5_init 64 = .ok (.invokespecial 21, 3) := by decide +kernel
theorem dX5_init_67 : decode cX5_init 67 = .ok (.putfield 22, 3) := by decide +kernel
theorem dX5_init_70 : decode cX5_init 70 = .ok (.aload_n 0, 1) := by decide +kernel
theorem dX5_init_71 : decode cX5_init 71 = .ok (.new 9, 3) := by decide +kernel
theorem dX5_init_74 : decode cX5_init 74 = .ok (.dup, 1) := by decide +kernel
theorem dX5_init_75 : decode cX5_init 75 = .ok (.invokespecial 18, 3) := by decide +kernel
theorem dX5_init_78 : decode cX5_init 78 = .ok (.putfield 26, 3) := by decide +kernel
theorem dX5_init_81 : decode cX5_init 81 = .ok (.aload_n 0, 1) := by decide +kernel
theorem dX5_init_82 : decode cX5_init 82 = .ok (.new 30, 3) := by decide +kernel
theorem dX5_init_85 : decode cX5_init 85 = .ok (.dup, 1) := by decide +kernel
theorem dX5_init_86 : decode cX5_init 86 = .ok (.invokespecial 32, 3) := by decide +kernel
theorem dX5_init_89 : decode cX5_init 89 = .ok (.putfield 33, 3) := by decide +kernel
theorem dX5_init_92 : decode cX5_init 92 = .ok (.aload_n 0, 1) := by decide +kernel
theorem dX5_init_93 : decode cX5_init 93 = .ok (.new 30, 3) := by decide +kernel
theorem dX5_init_96 : decode cX5_init 96 = .ok (.dup, 1) := by decide +kernel
theorem dX5_init_97 : decode cX5_init 97 = .ok (.invokespecial 32, 3) := by decide +kernel
theorem dX5_init_100 : decode cX5_init 100 = .ok (.putfield 37, 3) := by decide +kernel
theorem dX5_init_103 : decode cX5_init 103 = .ok (.aload_n 0, 1) := by decide +kernel
theorem dX5_init_104 : decode cX5_init 104 = .ok (.new 40, 3) := by decide +kernel
theorem dX5_init_107 : decode cX5_init 107 = .ok (.dup, 1) := by decide +kernel
theorem dX5_init_108 : decode cX5_init 108 = .ok (.bipush 120, 2) := by decide +kernel
theorem dX5_init_110 : decode cX5_init 110 = .ok (.invokespecial 42, 3) := by decide +kernel
theorem dX5_init_113 : decode cX5_init 113 = .ok (.putfield 45, 3) := by decide +kernel
theorem dX5_init_116 : decode cX5_init 116 = .ok (.aload_n 0, 1) := by decide +kernel
theorem dX5_init_117 : decode cX5_init 117 = .ok (.new 40, 3) := by decide +kernel
theorem dX5_init_120 : decode cX5_init 120 = .ok (.dup, 1) := by decide +kernel
theorem dX5_init_121 : decode cX5_init 121 = .ok (.sipush 2048, 3) := by decide +kernel
theorem dX5_init_124 : decode cX5_init 124 = .ok (.invokespecial 42, 3) := by decide +kernel
theorem dX5_init_127 : decode cX5_init 127 = .ok (.putfield 49, 3) := by decide +kernel
theorem dX5_init_130 : decode cX5_init 130 = .ok (.aload_n 0, 1) := by decide +kernel
theorem dX5_init_131 : decode cX5_init 131 = .ok (.new 52, 3) := by decide +kernel
theorem dX5_init_134 : decode cX5_init 134 = .ok (.dup, 1) := by decide +kernel
theorem dX5_init_135 : decode cX5_init 135 = .ok (.invokespecial 54, 3) := by decide +kernel
theorem dX5_init_138 : decode cX5_init 138 = .ok (.putfield 55, 3) := by decide +kernel
theorem dX5_init_141 : decode cX5_init 141 = .ok (.aload_n 0, 1) := by decide +kernel
theorem dX5_init_142 : decode cX5_init 142 = .ok (.iconst 4, 1) := by decide +kernel
theorem dX5_init_143 : decode cX5_init 143 = .ok (.newarray .int, 2) := by decide +kernel
theorem dX5_init_145 : decode cX5_init 145 = .ok (.putfield 59, 3) := by decide +kernel
theorem dX5_init_148 : decode cX5_init 148 = .ok (.aload_n 0, 1) := by decide +kernel
theorem dX5_init_149 : decode cX5_init 149 = .ok (.iconst 4, 1) := by decide +kernel
theorem dX5_init_150 : decode cX5_init 150 = .ok (.newarray .int, 2) := by decide +kernel
theorem dX5_init_152 : decode cX5_init 152 = .ok (.putfield 63, 3) := by decide +kernel
theorem dX5_init_155 : decode cX5_init 155 = .ok (.return_, 1) := by decide +kernel
theorem dX5_define_0 : decode cX5_define 0 = .ok (.aload_n 0, 1) := by decide +kernel
theorem dX5_define_1 : decode cX5_define 1 = .ok (.iload_n 1, 1) := by decide +kernel
theorem dX5_define_2 : decode cX5_define 2 = .ok (.invokevirtual 66, 3) := by decide +kernel
theorem dX5_define_5 : decode cX5_define 5 = .ok (.astore 6, 2) := by decide +kernel
theorem dX5_define_7 : decode cX5_define 7 = .ok (.iload_n 2, 1) := by decide +kernel
theorem dX5_define_8 : decode cX5_define 8 = .ok (.i2l, 1) := by decide +kernel
theorem dX5_define_9 : decode cX5_define 9 = .ok (.iload_n 3, 1) := by decide +kernel
theorem dX5_define_10 : decode cX5_define 10 = .ok (.i2l, 1) := by decide +kernel
theorem dX5_define_11 : decode cX5_define 11 = .ok (.iload 5, 2) := by decide +kernel
theorem dX5_define_13 : decode cX5_define 13 = .ok (.i2l, 1) := by decide +kernel
theorem dX5_define_14 : decode cX5_define 14 = .ok (.invokestatic 70, 3) := by decide +kernel
theorem dX5_define_17 : decode cX5_define 17 = .ok (.invokestatic 74, 3) := by decide +kernel
theorem dX5_define_20 : decode cX5_define 20 = .ok (.aload 6, 2) := by decide +kernel
theorem dX5_define_22 : decode cX5_define 22 = .ok (.invokevirtual 78, 3) := by decide +kernel
theorem dX5_define_25 : decode cX5_define 25 = .ok (.istore 7, 2) := by decide +kernel
theorem dX5_define_27 : decode cX5_define 27 = .ok (.aload_n 0, 1) := by decide +kernel
theorem dX5_define_28 : decode cX5_define 28 = .ok (.getfield 22, 3) := by decide +kernel
theorem dX5_define_31 : decode cX5_define 31 = .ok (.iload_n 1, 1) := by decide +kernel
theorem dX5_define_32 : decode cX5_define 32 = .ok (.aload 6, 2) := by decide +kernel
theorem dX5_define_34 : decode cX5_define 34 = .ok (.aload_n 0, 1) := by decide +kernel
theorem dX5_define_35 : decode cX5_define 35 = .ok (.getfield 82, 3) := by decide +kernel
theorem dX5_define_38 : decode cX5_define 38 = .ok (.invokevirtual 86, 3) := by decide +kernel
theorem dX5_define_41 : decode cX5_define 41 = .ok (.aload 6, 2) := by decide +kernel
theorem dX5_define_43 : decode cX5_define 43 = .ok (.iload_n 2, 1) := by decide +kernel
theorem dX5_define_44 : decode cX5_define 44 = .ok (.iload_n 3, 1) := by decide +kernel
theorem dX5_define_45 : decode cX5_define 45 = .ok (.iload 4, 2) := by decide +kernel
theorem dX5_define_47 : decode cX5_define 47 = .ok (.iload 5, 2) := by decide +kernel
theorem dX5_define_49 : decode cX5_define 49 = .ok (.invokevirtual 90, 3) := by decide +kernel
theorem dX5_define_52 : decode cX5_define 52 = .ok (.iload 7, 2) := by decide +kernel
theorem dX5_define_54 : decode cX5_define 54 = .ok (.ireturn, 1) := by decide +kernel
theorem dX5_drop_0 : decode cX5_drop 0 = .ok (.aload_n 0, 1) := by decide +kernel
theorem dX5_drop_1 : decode cX5_drop 1 = .ok (.iload_n 1, 1) := by decide +kernel
theorem dX5_drop_2 : decode cX5_drop 2 = .ok (.invokevirtual 66, 3) := by decide +kernel
theorem dX5_drop_5 : decode cX5_drop 5 = .ok (.astore_n 2, 1) := by decide +kernel
theorem dX5_drop_6 : decode cX5_drop 6 = .ok (.aload_n 2, 1) := by decide +kernel
theorem dX5_drop_7 : decode cX5_drop 7 = .ok (.invokevirtual 78, 3) := by decide +kernel
theorem dX5_drop_10 : decode cX5_drop 10 = .ok (.istore_n 3, 1) := by decide +kernel
theorem dX5_drop_11 : decode cX5_drop 11 = .ok (.aload_n 0, 1) := by decide +kernel
theorem dX5_drop_12 : decode cX5_drop 12 = .ok (.getfield 22, 3) := by decide +kernel
theorem dX5_drop_15 : decode cX5_drop 15 = .ok (.iload_n 1, 1) := by decide +kernel
theorem dX5_drop_16 : decode cX5_drop 16 = .ok (.aload_n 2, 1) := by decide +kernel
theorem dX5_drop_17 : decode cX5_drop 17 = .ok (.aload_n 0, 1) := by decide +kernel
theorem dX5_drop_18 : decode cX5_drop 18 = .ok (.getfield 82, 3) := by decide +kernel
theorem dX5_drop_21 : decode cX5_drop 21 = .ok (.invokevirtual 86, 3) := by decide +kernel
theorem dX5_drop_24 : decode cX5_drop 24 = .ok (.aload_n 2, 1) := by decide +kernel
theorem dX5_drop_25 : decode cX5_drop 25 = .ok (.invokevirtual 94, 3) := by decide +kernel
theorem dX5_drop_28 : decode cX5_drop 28 = .ok (.iload_n 3, 1) := by decide +kernel
theorem dX5_drop_29 : decode cX5_drop 29 = .ok (.ireturn, 1) := by decide +kernel
theorem dX5_offer_0 : decode cX5_offer 0 = .ok (.aload_n 0, 1) := by decide +kernel
theorem dX5_offer_1 : decode cX5_offer 1 = .ok (.iload_n 1, 1) := by decide +kernel
theorem dX5_offer_2 : decode cX5_offer 2 = .ok (.invokevirtual 66, 3) := by decide +kernel
theorem dX5_offer_5 : decode cX5_offer 5 = .ok (.astore 6, 2) := by decide +kernel
theorem dX5_offer_7 : decode cX5_offer 7 = .ok (.iload_n 2, 1) := by decide +kernel
theorem dX5_offer_8 : decode cX5_offer 8 = .ok (.i2l, 1) := by decide +kernel
theorem dX5_offer_9 : decode cX5_offer 9 = .ok (.iload_n 3, 1) := by decide +kernel
theorem dX5_offer_10 : decode cX5_offer 10 = .ok (.i2l, 1) := by decide +kernel
theorem dX5_offer_11 : decode cX5_offer 11 = .ok (.iload 4, 2) := by decide +kernel
theorem dX5_offer_13 : decode cX5_offer 13 = .ok (.i2l, 1) := by decide +kernel
theorem dX5_offer_14 : decode cX5_offer 14 = .ok (.iload 5, 2) := by decide +kernel
theorem dX5_offer_16 : decode cX5_offer 16 = .ok (.i2l, 1) := by decide +kernel
theorem dX5_offer_17 : decode cX5_offer 17 = .ok (.invokestatic 97, 3) := by decide +kernel
theorem dX5_offer_20 : decode cX5_offer 20 = .ok (.invokestatic 74, 3) := by decide +kernel
theorem dX5_offer_23 : decode cX5_offer 23 = .ok (.aload 6, 2) := by decide +kernel
theorem dX5_offer_25 : decode cX5_offer 25 = .ok (.invokestatic 101, 3) := by decide +kernel
theorem dX5_offer_28 : decode cX5_offer 28 = .ok (.aload 6, 2) := by decide +kernel
theorem dX5_offer_30 : decode cX5_offer 30 = .ok (.iconst 1, 1) := by decide +kernel
theorem dX5_offer_31 : decode cX5_offer 31 = .ok (.invokestatic 105, 3) := by decide +kernel
theorem dX5_offer_34 : decode cX5_offer 34 = .ok (.aload_n 0, 1) := by decide +kernel
theorem dX5_offer_35 : decode cX5_offer 35 = .ok (.getfield 22, 3) := by decide +kernel
theorem dX5_offer_38 : decode cX5_offer 38 = .ok (.iload_n 1, 1) := by decide +kernel
theorem dX5_offer_39 : decode cX5_offer 39 = .ok (.aload 6, 2) := by decide +kernel
theorem dX5_offer_41 : decode cX5_offer 41 = .ok (.aload_n 0, 1) := by decide +kernel
theorem dX5_offer_42 : decode cX5_offer 42 = .ok (.getfield 82, 3) := by decide +kernel
theorem dX5_offer_45 : decode cX5_offer 45 = .ok (.invokevirtual 86, 3) := by decide +kernel
theorem dX5_offer_48 : decode cX5_offer 48 = .ok (.aload_n 0, 1) := by decide +kernel
theorem dX5_offer_49 : decode cX5_offer 49 = .ok (.getfield 82, 3) := by decide +kernel
theorem dX5_offer_52 : decode cX5_offer 52 = .ok (.istore 7, 2) := by decide +kernel
theorem dX5_offer_54 : decode cX5_offer 54 = .ok (.aload 6, 2) := by decide +kernel
theorem dX5_offer_56 : decode cX5_offer 56 = .ok (.iload 7, 2) := by decide +kernel
theorem dX5_offer_58 : decode cX5_offer 58 = .ok (.iload_n 2, 1) := by decide +kernel
theorem dX5_offer_59 : decode cX5_offer 59 = .ok (.iload_n 3, 1) := by decide +kernel
theorem dX5_offer_60 : decode cX5_offer 60 = .ok (.iload 4, 2) := by decide +kernel
theorem dX5_offer_62 : decode cX5_offer 62 = .ok (.iload 5, 2) := by decide +kernel
theorem dX5_offer_64 : decode cX5_offer 64 = .ok (.invokevirtual 109, 3) := by decide +kernel
theorem dX5_offer_67 : decode cX5_offer 67 = .ok (.aload_n 0, 1) := by decide +kernel
theorem dX5_offer_68 : decode cX5_offer 68 = .ok (.iload 7, 2) := by decide +kernel
theorem dX5_offer_70 : decode cX5_offer 70 = .ok (.iconst 1, 1) := by decide +kernel
theorem dX5_offer_71 : decode cX5_offer 71 = .ok (.iadd, 1) := by decide +kernel
theorem dX5_offer_72 : decode cX5_offer 72 = .ok (.putfield 82, 3) := by decide +kernel
theorem dX5_offer_75 : decode cX5_offer 75 = .ok (.iload 7, 2) := by decide +kernel
theorem dX5_offer_77 : decode cX5_offer 77 = .ok (.ireturn, 1) := by decide +kernel
theorem dX5_offerDrawn_0 : decode cX5_offerDrawn 0 = .ok (.aload_n 0, 1) := by decide +kernel
theorem dX5_offerDrawn_1 : decode cX5_offerDrawn 1 = .ok (.iload_n 1, 1) := by decide +kernel
theorem dX5_offerDrawn_2 : decode cX5_offerDrawn 2 = .ok (.invokevirtual 66, 3) := by decide +kernel
theorem dX5_offerDrawn_5 : decode cX5_offerDrawn 5 = .ok (.astore 4, 2) := by decide +kernel
theorem dX5_offerDrawn_7 : decode cX5_offerDrawn 7 = .ok (.iload_n 3, 1) := by decide +kernel
theorem dX5_offerDrawn_8 : decode cX5_offerDrawn 8 = .ok (.i2l, 1) := by decide +kernel
theorem dX5_offerDrawn_9 : decode cX5_offerDrawn 9 = .ok (.lconst 0, 1) := by decide +kernel
theorem dX5_offerDrawn_10 : decode cX5_offerDrawn 10 = .ok (.ldc2_w 113, 3) := by decide +kernel
theorem dX5_offerDrawn_13 : decode cX5_offerDrawn 13 = .ok (.invokestatic 115, 3) := by decide +kernel
theorem dX5_offerDrawn_16 : decode cX5_offerDrawn 16 = .ok (.invokestatic 74, 3) := by decide +kernel
theorem dX5_offerDrawn_19 : decode cX5_offerDrawn 19 = .ok (.aload 4, 2) := by decide +kernel
theorem dX5_offerDrawn_21 : decode cX5_offerDrawn 21 = .ok (.invokestatic 101, 3) := by decide +kernel
theorem dX5_offerDrawn_24 : decode cX5_offerDrawn 24 = .ok (.aload 4, 2) := by decide +kernel
theorem dX5_offerDrawn_26 : decode cX5_offerDrawn 26 = .ok (.iload_n 3, 1) := by decide +kernel
theorem dX5_offerDrawn_27 : decode cX5_offerDrawn 27 = .ok (.invokestatic 105, 3) := by decide +kernel
theorem dX5_offerDrawn_30 : decode cX5_offerDrawn 30 = .ok (.aload_n 0, 1) := by decide +kernel
theorem dX5_offerDrawn_31 : decode cX5_offerDrawn 31 = .ok (.getfield 22, 3) := by decide +kernel
theorem dX5_offerDrawn_34 : decode cX5_offerDrawn 34 = .ok (.iload_n 1, 1) := by decide +kernel
theorem dX5_offerDrawn_35 : decode cX5_offerDrawn 35 = .ok (.aload 4, 2) := by decide +kernel
theorem dX5_offerDrawn_37 : decode cX5_offerDrawn 37 = .ok (.aload_n 0, 1) := by decide +kernel
theorem dX5_offerDrawn_38 : decode cX5_offerDrawn 38 = .ok (.getfield 82, 3) := by decide +kernel
theorem dX5_offerDrawn_41 : decode cX5_offerDrawn 41 = .ok (.invokevirtual 86, 3) := by decide +kernel
theorem dX5_offerDrawn_44 : decode cX5_offerDrawn 44 = .ok (.iload_n 2, 1) := by decide +kernel
theorem dX5_offerDrawn_45 : decode cX5_offerDrawn 45 = .ok (.istore 5, 2) := by decide +kernel
theorem dX5_offerDrawn_47 : decode cX5_offerDrawn 47 = .ok (.iconst 0, 1) := by decide +kernel
theorem dX5_offerDrawn_48 : decode cX5_offerDrawn 48 = .ok (.istore 6, 2) := by decide +kernel
theorem dX5_offerDrawn_50 : decode cX5_offerDrawn 50 = .ok (.iload 6, 2) := by decide +kernel
theorem dX5_offerDrawn_52 : decode cX5_offerDrawn 52 = .ok (.iload_n 3, 1) := by decide +kernel
theorem dX5_offerDrawn_53 : decode cX5_offerDrawn 53 = .ok (.if_icmp .ge 75, 3) := by decide +kernel
theorem dX5_offerDrawn_56 : decode cX5_offerDrawn 56 = .ok (.iload 5, 2) := by decide +kernel
theorem dX5_offerDrawn_58 : decode cX5_offerDrawn 58 = .ok (.invokestatic 118, 3) := by decide +kernel
theorem dX5_offerDrawn_61 : decode cX5_offerDrawn 61 = .ok (.istore 5, 2) := by decide +kernel
theorem dX5_offerDrawn_63 : decode cX5_offerDrawn 63 = .ok (.iload 5, 2) := by decide +kernel
theorem dX5_offerDrawn_65 : decode cX5_offerDrawn 65 = .ok (.bipush 8, 2) := by decide +kernel
theorem dX5_offerDrawn_67 : decode cX5_offerDrawn 67 = .ok (.iushr, 1) := by decide +kernel
theorem dX5_offerDrawn_68 : decode cX5_offerDrawn 68 = .ok (.istore 7, 2) := by decide +kernel
theorem dX5_offerDrawn_70 : decode cX5_offerDrawn 70 = .ok (.aload 4, 2) := by decide +kernel
theorem dX5_offerDrawn_72 : decode cX5_offerDrawn 72 = .ok (.aload_n 0, 1) := by decide +kernel
theorem dX5_offerDrawn_73 : decode cX5_offerDrawn 73 = .ok (.getfield 82, 3) := by decide +kernel
theorem dX5_offerDrawn_76 : decode cX5_offerDrawn 76 = .ok (.iload 7, 2) := by decide +kernel
theorem dX5_offerDrawn_78 : decode cX5_offerDrawn 78 = .ok (.bipush 100, 2) := by decide +kernel
theorem dX5_offerDrawn_80 : decode cX5_offerDrawn 80 = .ok (.irem, 1) := by decide +kernel
theorem dX5_offerDrawn_81 : decode cX5_offerDrawn 81 = .ok (.iload 7, 2) := by decide +kernel
theorem dX5_offerDrawn_83 : decode cX5_offerDrawn 83 = .ok (.bipush 100, 2) := by decide +kernel
theorem dX5_offerDrawn_85 : decode cX5_offerDrawn 85 = .ok (.idiv, 1) := by decide +kernel
theorem dX5_offerDrawn_86 : decode cX5_offerDrawn 86 = .ok (.iconst 4, 1) := by decide +kernel
theorem dX5_offerDrawn_87 : decode cX5_offerDrawn 87 = .ok (.irem, 1) := by decide +kernel
theorem dX5_offerDrawn_88 : decode cX5_offerDrawn 88 = .ok (.iload 7, 2) := by decide +kernel
theorem dX5_offerDrawn_90 : decode cX5_offerDrawn 90 = .ok (.sipush 400, 3) := by decide +kernel
theorem dX5_offerDrawn_93 : decode cX5_offerDrawn 93 = .ok (.idiv, 1) := by decide +kernel
theorem dX5_offerDrawn_94 : decode cX5_offerDrawn 94 = .ok (.bipush 99, 2) := by decide +kernel
theorem dX5_offerDrawn_96 : decode cX5_offerDrawn 96 = .ok (.irem, 1) := by decide +kernel
theorem dX5_offerDrawn_97 : decode cX5_offerDrawn 97 = .ok (.iconst 1, 1) := by decide +kernel
theorem dX5_offerDrawn_98 : decode cX5_offerDrawn 98 = .ok (.iadd, 1) := by decide +kernel
theorem dX5_offerDrawn_99 : decode cX5_offerDrawn 99 = .ok (.iload 7, 2) := by decide +kernel
theorem dX5_offerDrawn_101 : decode cX5_offerDrawn 101 = .ok (.sipush 1999, 3) := by decide +kernel
theorem dX5_offerDrawn_104 : decode cX5_offerDrawn 104 = .ok (.irem, 1) := by decide +kernel
theorem dX5_offerDrawn_105 : decode cX5_offerDrawn 105 = .ok (.sipush 999, 3) := by decide +kernel
theorem dX5_offerDrawn_108 : decode cX5_offerDrawn 108 = .ok (.isub, 1) := by decide +kernel
theorem dX5_offerDrawn_109 : decode cX5_offerDrawn 109 = .ok (.invokevirtual 109, 3) := by decide +kernel
theorem dX5_offerDrawn_112 : decode cX5_offerDrawn 112 = .ok (.aload_n 0, 1) := by decide +kernel
theorem dX5_offerDrawn_113 : decode cX5_offerDrawn 113 = .ok (.dup, 1) := by decide +kernel
theorem dX5_offerDrawn_114 : decode cX5_offerDrawn 114 = .ok (.getfield 82, 3) := by decide +kernel
theorem dX5_offerDrawn_117 : decode cX5_offerDrawn 117 = .ok (.iconst 1, 1) := by decide +kernel
theorem dX5_offerDrawn_118 : decode cX5_offerDrawn 118 = .ok (.iadd, 1) := by decide +kernel
theorem dX5_offerDrawn_119 : decode cX5_offerDrawn 119 = .ok (.putfield 82, 3) := by decide +kernel
theorem dX5_offerDrawn_122 : decode cX5_offerDrawn 122 = .ok (.iinc 6 1, 3) := by decide +kernel
theorem dX5_offerDrawn_125 : decode cX5_offerDrawn 125 = .ok (.goto (-75), 3) := by decide +kernel
theorem dX5_offerDrawn_128 : decode cX5_offerDrawn 128 = .ok (.aload 4, 2) := by decide +kernel
theorem dX5_offerDrawn_130 : decode cX5_offerDrawn 130 = .ok (.invokevirtual 78, 3) := by decide +kernel
theorem dX5_offerDrawn_133 : decode cX5_offerDrawn 133 = .ok (.ireturn, 1) := by decide +kernel
theorem dX5_summary_0 : decode cX5_summary 0 = .ok (.aload_n 0, 1) := by decide +kernel
theorem dX5_summary_1 : decode cX5_summary 1 = .ok (.iload_n 1, 1) := by decide +kernel
theorem dX5_summary_2 : decode cX5_summary 2 = .ok (.invokevirtual 66, 3) := by decide +kernel
theorem dX5_summary_5 : decode cX5_summary 5 = .ok (.astore_n 3, 1) := by decide +kernel
theorem dX5_summary_6 : decode cX5_summary 6 = .ok (.iload_n 2, 1) := by decide +kernel
theorem dX5_summary_7 : decode cX5_summary 7 = .ok (.i2l, 1) := by decide +kernel
theorem dX5_summary_8 : decode cX5_summary 8 = .ok (.lconst 0, 1) := by decide +kernel
theorem dX5_summary_9 : decode cX5_summary 9 = .ok (.ldc2_w 122, 3) := by decide +kernel
theorem dX5_summary_12 : decode cX5_summary 12 = .ok (.invokestatic 115, 3) := by decide +kernel
theorem dX5_summary_15 : decode cX5_summary 15 = .ok (.invokestatic 74, 3) := by decide +kernel
theorem dX5_summary_18 : decode cX5_summary 18 = .ok (.aload_n 3, 1) := by decide +kernel
theorem dX5_summary_19 : decode cX5_summary 19 = .ok (.invokestatic 101, 3) := by decide +kernel
theorem dX5_summary_22 : decode cX5_summary 22 = .ok (.iload_n 2, 1) := by decide +kernel
theorem dX5_summary_23 : decode cX5_summary 23 = .ok (.tableswitch 92 0 6 #[41, 46, 51, 56, 61, 66, 75], 41) := by decide +kernel
theorem dX5_summary_64 : decode cX5_summary 64 = .ok (.aload_n 3, 1) := by decide +kernel
theorem dX5_summary_65 : decode cX5_summary 65 = .ok (.getfield 124, 3) := by decide +kernel
theorem dX5_summary_68 : decode cX5_summary 68 = .ok (.ireturn, 1) := by decide +kernel
theorem dX5_summary_69 : decode cX5_summary 69 = .ok (.aload_n 3, 1) := by decide +kernel
theorem dX5_summary_70 : decode cX5_summary 70 = .ok (.getfield 127, 3) := by decide +kernel
theorem dX5_summary_73 : decode cX5_summary 73 = .ok (.ireturn, 1) := by decide +kernel
theorem dX5_summary_74 : decode cX5_summary 74 = .ok (.aload_n 3, 1) := by decide +kernel
theorem dX5_summary_75 : decode cX5_summary 75 = .ok (.getfield 130, 3) := by decide +kernel
theorem dX5_summary_78 : decode cX5_summary 78 = .ok (.ireturn, 1) := by decide +kernel
theorem dX5_summary_79 : decode cX5_summary 79 = .ok (.aload_n 3, 1) := by decide +kernel
theorem dX5_summary_80 : decode cX5_summary 80 = .ok (.getfield 133, 3) := by decide +kernel
theorem dX5_summary_83 : decode cX5_summary 83 = .ok (.ireturn, 1) := by decide +kernel
theorem dX5_summary_84 : decode cX5_summary 84 = .ok (.aload_n 3, 1) := by decide +kernel
theorem dX5_summary_85 : decode cX5_summary 85 = .ok (.invokevirtual 78, 3) := by decide +kernel
theorem dX5_summary_88 : decode cX5_summary 88 = .ok (.ireturn, 1) := by decide +kernel
theorem dX5_summary_89 : decode cX5_summary 89 = .ok (.aload_n 0, 1) := by decide +kernel
theorem dX5_summary_90 : decode cX5_summary 90 = .ok (.aload_n 3, 1) := by decide +kernel
theorem dX5_summary_91 : decode cX5_summary 91 = .ok (.invokevirtual 136, 3) := by decide +kernel
theorem dX5_summary_94 : decode cX5_summary 94 = .ok (.invokevirtual 140, 3) := by decide +kernel
theorem dX5_summary_97 : decode cX5_summary 97 = .ok (.ireturn, 1) := by decide +kernel
theorem dX5_summary_98 : decode cX5_summary 98 = .ok (.aload_n 0, 1) := by decide +kernel
theorem dX5_summary_99 : decode cX5_summary 99 = .ok (.aload_n 3, 1) := by decide +kernel
theorem dX5_summary_100 : decode cX5_summary 100 = .ok (.invokevirtual 136, 3) := by decide +kernel
theorem dX5_summary_103 : decode cX5_summary 103 = .ok (.invokevirtual 142, 3) := by decide +kernel
theorem dX5_summary_106 : decode cX5_summary 106 = .ok (.ifCond .eq 7, 3) := by decide +kernel
theorem dX5_summary_109 : decode cX5_summary 109 = .ok (.iconst 1, 1) := by decide +kernel
theorem dX5_summary_110 : decode cX5_summary 110 = .ok (.goto 4, 3) := by decide +kernel
theorem dX5_summary_113 : decode cX5_summary 113 = .ok (.iconst 0, 1) := by decide +kernel
theorem dX5_summary_114 : decode cX5_summary 114 = .ok (.ireturn, 1) := by decide +kernel
theorem dX5_summary_115 : decode cX5_summary 115 = .ok (.aload_n 3, 1) := by decide +kernel
theorem dX5_summary_116 : decode cX5_summary 116 = .ok (.invokevirtual 146, 3) := by decide +kernel
theorem dX5_summary_119 : decode cX5_summary 119 = .ok (.ireturn, 1) := by decide +kernel
theorem dX5_setQuota_0 : decode cX5_setQuota 0 = .ok (.aload_n 0, 1) := by decide +kernel
theorem dX5_setQuota_1 : decode cX5_setQuota 1 = .ok (.iload_n 1, 1) := by decide +kernel
theorem dX5_setQuota_2 : decode cX5_setQuota 2 = .ok (.invokevirtual 66, 3) := by decide +kernel
theorem dX5_setQuota_5 : decode cX5_setQuota 5 = .ok (.astore 4, 2) := by decide +kernel
theorem dX5_setQuota_7 : decode cX5_setQuota 7 = .ok (.iload_n 2, 1) := by decide +kernel
theorem dX5_setQuota_8 : decode cX5_setQuota 8 = .ok (.invokestatic 149, 3) := by decide +kernel
theorem dX5_setQuota_11 : decode cX5_setQuota 11 = .ok (.iload_n 3, 1) := by decide +kernel
theorem dX5_setQuota_12 : decode cX5_setQuota 12 = .ok (.i2l, 1) := by decide +kernel
theorem dX5_setQuota_13 : decode cX5_setQuota 13 = .ok (.lconst 0, 1) := by decide +kernel
theorem dX5_setQuota_14 : decode cX5_setQuota 14 = .ok (.ldc2_w 152, 3) := by decide +kernel
theorem dX5_setQuota_17 : decode cX5_setQuota 17 = .ok (.invokestatic 115, 3) := by decide +kernel
theorem dX5_setQuota_20 : decode cX5_setQuota 20 = .ok (.invokestatic 74, 3) := by decide +kernel
theorem dX5_setQuota_23 : decode cX5_setQuota 23 = .ok (.aload 4, 2) := by decide +kernel
theorem dX5_setQuota_25 : decode cX5_setQuota 25 = .ok (.invokestatic 101, 3) := by decide +kernel
theorem dX5_setQuota_28 : decode cX5_setQuota 28 = .ok (.aload 4, 2) := by decide +kernel
theorem dX5_setQuota_30 : decode cX5_setQuota 30 = .ok (.iload_n 2, 1) := by decide +kernel
theorem dX5_setQuota_31 : decode cX5_setQuota 31 = .ok (.invokevirtual 154, 3) := by decide +kernel
theorem dX5_setQuota_34 : decode cX5_setQuota 34 = .ok (.istore 5, 2) := by decide +kernel
theorem dX5_setQuota_36 : decode cX5_setQuota 36 = .ok (.aload_n 0, 1) := by decide +kernel
theorem dX5_setQuota_37 : decode cX5_setQuota 37 = .ok (.getfield 22, 3) := by decide +kernel
theorem dX5_setQuota_40 : decode cX5_setQuota 40 = .ok (.iload_n 1, 1) := by decide +kernel
theorem dX5_setQuota_41 : decode cX5_setQuota 41 = .ok (.aload 4, 2) := by decide +kernel
theorem dX5_setQuota_43 : decode cX5_setQuota 43 = .ok (.aload_n 0, 1) := by decide +kernel
theorem dX5_setQuota_44 : decode cX5_setQuota 44 = .ok (.getfield 82, 3) := by decide +kernel
theorem dX5_setQuota_47 : decode cX5_setQuota 47 = .ok (.invokevirtual 86, 3) := by decide +kernel
theorem dX5_setQuota_50 : decode cX5_setQuota 50 = .ok (.aload 4, 2) := by decide +kernel
theorem dX5_setQuota_52 : decode cX5_setQuota 52 = .ok (.iload_n 2, 1) := by decide +kernel
theorem dX5_setQuota_53 : decode cX5_setQuota 53 = .ok (.iload_n 3, 1) := by decide +kernel
theorem dX5_setQuota_54 : decode cX5_setQuota 54 = .ok (.invokevirtual 157, 3) := by decide +kernel
theorem dX5_setQuota_57 : decode cX5_setQuota 57 = .ok (.iload 5, 2) := by decide +kernel
theorem dX5_setQuota_59 : decode cX5_setQuota 59 = .ok (.ireturn, 1) := by decide +kernel
theorem dX5_allocate_0 : decode cX5_allocate 0 = .ok (.aload_n 0, 1) := by decide +kernel
theorem dX5_allocate_1 : decode cX5_allocate 1 = .ok (.iload_n 1, 1) := by decide +kernel
theorem dX5_allocate_2 : decode cX5_allocate 2 = .ok (.invokevirtual 66, 3) := by decide +kernel
theorem dX5_allocate_5 : decode cX5_allocate 5 = .ok (.astore 4, 2) := by decide +kernel
theorem dX5_allocate_7 : decode cX5_allocate 7 = .ok (.iload_n 2, 1) := by decide +kernel
theorem dX5_allocate_8 : decode cX5_allocate 8 = .ok (.i2l, 1) := by decide +kernel
theorem dX5_allocate_9 : decode cX5_allocate 9 = .ok (.lconst 0, 1) := by decide +kernel
theorem dX5_allocate_10 : decode cX5_allocate 10 = .ok (.ldc2_w 152, 3) := by decide +kernel
theorem dX5_allocate_13 : decode cX5_allocate 13 = .ok (.invokestatic 115, 3) := by decide +kernel
theorem dX5_allocate_16 : decode cX5_allocate 16 = .ok (.invokestatic 74, 3) := by decide +kernel
theorem dX5_allocate_19 : decode cX5_allocate 19 = .ok (.aload 4, 2) := by decide +kernel
theorem dX5_allocate_21 : decode cX5_allocate 21 = .ok (.invokestatic 101, 3) := by decide +kernel
theorem dX5_allocate_24 : decode cX5_allocate 24 = .ok (.aload_n 0, 1) := by decide +kernel
theorem dX5_allocate_25 : decode cX5_allocate 25 = .ok (.aload 4, 2) := by decide +kernel
theorem dX5_allocate_27 : decode cX5_allocate 27 = .ok (.iload_n 3, 1) := by decide +kernel
theorem dX5_allocate_28 : decode cX5_allocate 28 = .ok (.invokevirtual 161, 3) := by decide +kernel
theorem dX5_allocate_31 : decode cX5_allocate 31 = .ok (.istore 5, 2) := by decide +kernel
theorem dX5_allocate_33 : decode cX5_allocate 33 = .ok (.iload 5, 2) := by decide +kernel
theorem dX5_allocate_35 : decode cX5_allocate 35 = .ok (.ifCond .gt 13, 3) := by decide +kernel
theorem dX5_allocate_38 : decode cX5_allocate 38 = .ok (.new 165, 3) := by decide +kernel
theorem dX5_allocate_41 : decode cX5_allocate 41 = .ok (.dup, 1) := by decide +kernel
theorem dX5_allocate_42 : decode cX5_allocate 42 = .ok (.ldc 167, 2) := by decide +kernel
theorem dX5_allocate_44 : decode cX5_allocate 44 = .ok (.invokespecial 169, 3) := by decide +kernel
theorem dX5_allocate_47 : decode cX5_allocate 47 = .ok (.athrow, 1) := by decide +kernel
theorem dX5_allocate_48 : decode cX5_allocate 48 = .ok (.aload_n 0, 1) := by decide +kernel
theorem dX5_allocate_49 : decode cX5_allocate 49 = .ok (.getfield 22, 3) := by decide +kernel
theorem dX5_allocate_52 : decode cX5_allocate 52 = .ok (.iload_n 1, 1) := by decide +kernel
theorem dX5_allocate_53 : decode cX5_allocate 53 = .ok (.aload 4, 2) := by decide +kernel
theorem dX5_allocate_55 : decode cX5_allocate 55 = .ok (.aload_n 0, 1) := by decide +kernel
theorem dX5_allocate_56 : decode cX5_allocate 56 = .ok (.getfield 82, 3) := by decide +kernel
theorem dX5_allocate_59 : decode cX5_allocate 59 = .ok (.invokevirtual 86, 3) := by decide +kernel
theorem dX5_allocate_62 : decode cX5_allocate 62 = .ok (.iload_n 2, 1) := by decide +kernel
theorem dX5_allocate_63 : decode cX5_allocate 63 = .ok (.istore 6, 2) := by decide +kernel
theorem dX5_allocate_65 : decode cX5_allocate 65 = .ok (.iconst 0, 1) := by decide +kernel
theorem dX5_allocate_66 : decode cX5_allocate 66 = .ok (.istore 7, 2) := by decide +kernel
theorem dX5_allocate_68 : decode cX5_allocate 68 = .ok (.iload 7, 2) := by decide +kernel
theorem dX5_allocate_70 : decode cX5_allocate 70 = .ok (.iconst 4, 1) := by decide +kernel
theorem dX5_allocate_71 : decode cX5_allocate 71 = .ok (.if_icmp .ge 54, 3) := by decide +kernel
theorem dX5_allocate_74 : decode cX5_allocate 74 = .ok (.iload_n 2, 1) := by decide +kernel
theorem dX5_allocate_75 : decode cX5_allocate 75 = .ok (.aload_n 0, 1) := by decide +kernel
theorem dX5_allocate_76 : decode cX5_allocate 76 = .ok (.getfield 59, 3) := by decide +kernel
theorem dX5_allocate_79 : decode cX5_allocate 79 = .ok (.iload 7, 2) := by decide +kernel
theorem dX5_allocate_81 : decode cX5_allocate 81 = .ok (.iaload, 1) := by decide +kernel
theorem dX5_allocate_82 : decode cX5_allocate 82 = .ok (.imul, 1) := by decide +kernel
theorem dX5_allocate_83 : decode cX5_allocate 83 = .ok (.istore 8, 2) := by decide +kernel
theorem dX5_allocate_85 : decode cX5_allocate 85 = .ok (.aload 4, 2) := by decide +kernel
theorem dX5_allocate_87 : decode cX5_allocate 87 = .ok (.iload 7, 2) := by decide +kernel
theorem dX5_allocate_89 : decode cX5_allocate 89 = .ok (.iload 8, 2) := by decide +kernel
theorem dX5_allocate_91 : decode cX5_allocate 91 = .ok (.iload 5, 2) := by decide +kernel
theorem dX5_allocate_93 : decode cX5_allocate 93 = .ok (.idiv, 1) := by decide +kernel
theorem dX5_allocate_94 : decode cX5_allocate 94 = .ok (.invokevirtual 157, 3) := by decide +kernel
theorem dX5_allocate_97 : decode cX5_allocate 97 = .ok (.aload_n 0, 1) := by decide +kernel
theorem dX5_allocate_98 : decode cX5_allocate 98 = .ok (.getfield 63, 3) := by decide +kernel
theorem dX5_allocate_101 : decode cX5_allocate 101 = .ok (.iload 7, 2) := by decide +kernel
theorem dX5_allocate_103 : decode cX5_allocate 103 = .ok (.iload 8, 2) := by decide +kernel
theorem dX5_allocate_105 : decode cX5_allocate 105 = .ok (.iload 5, 2) := by decide +kernel
theorem dX5_allocate_107 : decode cX5_allocate 107 = .ok (.irem, 1) := by decide +kernel
theorem dX5_allocate_108 : decode cX5_allocate 108 = .ok (.iastore, 1) := by decide +kernel
theorem dX5_allocate_109 : decode cX5_allocate 109 = .ok (.iload 6, 2) := by decide +kernel
theorem dX5_allocate_111 : decode cX5_allocate 111 = .ok (.iload 8, 2) := by decide +kernel
theorem dX5_allocate_113 : decode cX5_allocate 113 = .ok (.iload 5, 2) := by decide +kernel
theorem dX5_allocate_115 : decode cX5_allocate 115 = .ok (.idiv, 1) := by decide +kernel
theorem dX5_allocate_116 : decode cX5_allocate 116 = .ok (.isub, 1) := by decide +kernel
theorem dX5_allocate_117 : decode cX5_allocate 117 = .ok (.istore 6, 2) := by decide +kernel
theorem dX5_allocate_119 : decode cX5_allocate 119 = .ok (.iinc 7 1, 3) := by decide +kernel
theorem dX5_allocate_122 : decode cX5_allocate 122 = .ok (.goto (-54), 3) := by decide +kernel
theorem dX5_allocate_125 : decode cX5_allocate 125 = .ok (.iconst 0, 1) := by decide +kernel
theorem dX5_allocate_126 : decode cX5_allocate 126 = .ok (.istore 7, 2) := by decide +kernel
theorem dX5_allocate_128 : decode cX5_allocate 128 = .ok (.iload 7, 2) := by decide +kernel
theorem dX5_allocate_130 : decode cX5_allocate 130 = .ok (.iload 6, 2) := by decide +kernel
theorem dX5_allocate_132 : decode cX5_allocate 132 = .ok (.if_icmp .ge 31, 3) := by decide +kernel
theorem dX5_allocate_135 : decode cX5_allocate 135 = .ok (.aload_n 0, 1) := by decide +kernel
theorem dX5_allocate_136 : decode cX5_allocate 136 = .ok (.invokevirtual 172, 3) := by decide +kernel
theorem dX5_allocate_139 : decode cX5_allocate 139 = .ok (.istore 8, 2) := by decide +kernel
theorem dX5_allocate_141 : decode cX5_allocate 141 = .ok (.aload 4, 2) := by decide +kernel
theorem dX5_allocate_143 : decode cX5_allocate 143 = .ok (.iload 8, 2) := by decide +kernel
theorem dX5_allocate_145 : decode cX5_allocate 145 = .ok (.aload 4, 2) := by decide +kernel
theorem dX5_allocate_147 : decode cX5_allocate 147 = .ok (.iload 8, 2) := by decide +kernel
theorem dX5_allocate_149 : decode cX5_allocate 149 = .ok (.invokevirtual 154, 3) := by decide +kernel
theorem dX5_allocate_152 : decode cX5_allocate 152 = .ok (.iconst 1, 1) := by decide +kernel
theorem dX5_allocate_153 : decode cX5_allocate 153 = .ok (.iadd, 1) := by decide +kernel
theorem dX5_allocate_154 : decode cX5_allocate 154 = .ok (.invokevirtual 157, 3) := by decide +kernel
theorem dX5_allocate_157 : decode cX5_allocate 157 = .ok (.iinc 7 1, 3) := by decide +kernel
theorem dX5_allocate_160 : decode cX5_allocate 160 = .ok (.goto (-32), 3) := by decide +kernel
theorem dX5_allocate_163 : decode cX5_allocate 163 = .ok (.aload 4, 2) := by decide +kernel
theorem dX5_allocate_165 : decode cX5_allocate 165 = .ok (.iconst 0, 1) := by decide +kernel
theorem dX5_allocate_166 : decode cX5_allocate 166 = .ok (.invokevirtual 154, 3) := by decide +kernel
theorem dX5_allocate_169 : decode cX5_allocate 169 = .ok (.ireturn, 1) := by decide +kernel
theorem dX5_quota_0 : decode cX5_quota 0 = .ok (.aload_n 0, 1) := by decide +kernel
theorem dX5_quota_1 : decode cX5_quota 1 = .ok (.iload_n 1, 1) := by decide +kernel
theorem dX5_quota_2 : decode cX5_quota 2 = .ok (.invokevirtual 66, 3) := by decide +kernel
theorem dX5_quota_5 : decode cX5_quota 5 = .ok (.astore_n 3, 1) := by decide +kernel
theorem dX5_quota_6 : decode cX5_quota 6 = .ok (.iload_n 2, 1) := by decide +kernel
theorem dX5_quota_7 : decode cX5_quota 7 = .ok (.invokestatic 149, 3) := by decide +kernel
theorem dX5_quota_10 : decode cX5_quota 10 = .ok (.aload_n 3, 1) := by decide +kernel
theorem dX5_quota_11 : decode cX5_quota 11 = .ok (.invokestatic 101, 3) := by decide +kernel
theorem dX5_quota_14 : decode cX5_quota 14 = .ok (.aload_n 3, 1) := by decide +kernel
theorem dX5_quota_15 : decode cX5_quota 15 = .ok (.iload_n 2, 1) := by decide +kernel
theorem dX5_quota_16 : decode cX5_quota 16 = .ok (.invokevirtual 154, 3) := by decide +kernel
theorem dX5_quota_19 : decode cX5_quota 19 = .ok (.ireturn, 1) := by decide +kernel
theorem dX5_merge_0 : decode cX5_merge 0 = .ok (.aload_n 0, 1) := by decide +kernel
theorem dX5_merge_1 : decode cX5_merge 1 = .ok (.iload_n 1, 1) := by decide +kernel
theorem dX5_merge_2 : decode cX5_merge 2 = .ok (.invokevirtual 66, 3) := by decide +kernel
theorem dX5_merge_5 : decode cX5_merge 5 = .ok (.astore_n 3, 1) := by decide +kernel
theorem dX5_merge_6 : decode cX5_merge 6 = .ok (.aload_n 0, 1) := by decide +kernel
theorem dX5_merge_7 : decode cX5_merge 7 = .ok (.iload_n 2, 1) := by decide +kernel
theorem dX5_merge_8 : decode cX5_merge 8 = .ok (.invokevirtual 66, 3) := by decide +kernel
theorem dX5_merge_11 : decode cX5_merge 11 = .ok (.astore 4, 2) := by decide +kernel
theorem dX5_merge_13 : decode cX5_merge 13 = .ok (.aload_n 3, 1) := by decide +kernel
theorem dX5_merge_14 : decode cX5_merge 14 = .ok (.invokestatic 101, 3) := by decide +kernel
theorem dX5_merge_17 : decode cX5_merge 17 = .ok (.aload 4, 2) := by decide +kernel
theorem dX5_merge_19 : decode cX5_merge 19 = .ok (.invokestatic 101, 3) := by decide +kernel
theorem dX5_merge_22 : decode cX5_merge 22 = .ok (.aload 4, 2) := by decide +kernel
theorem dX5_merge_24 : decode cX5_merge 24 = .ok (.aload_n 3, 1) := by decide +kernel
theorem dX5_merge_25 : decode cX5_merge 25 = .ok (.invokevirtual 175, 3) := by decide +kernel
theorem dX5_merge_28 : decode cX5_merge 28 = .ok (.ifCond .ne 13, 3) := by decide +kernel
theorem dX5_merge_31 : decode cX5_merge 31 = .ok (.new 179, 3) := by decide +kernel
theorem dX5_merge_34 : decode cX5_merge 34 = .ok (.dup, 1) := by decide +kernel
theorem dX5_merge_35 : decode cX5_merge 35 = .ok (.ldc 181, 2) := by decide +kernel
theorem dX5_merge_37 : decode cX5_merge 37 = .ok (.invokespecial 183, 3) := by decide +kernel
theorem dX5_merge_40 : decode cX5_merge 40 = .ok (.athrow, 1) := by decide +kernel
theorem dX5_merge_41 : decode cX5_merge 41 = .ok (.aload 4, 2) := by decide +kernel
theorem dX5_merge_43 : decode cX5_merge 43 = .ok (.aload 4, 2) := by decide +kernel
theorem dX5_merge_45 : decode cX5_merge 45 = .ok (.aload_n 3, 1) := by decide +kernel
theorem dX5_merge_46 : decode cX5_merge 46 = .ok (.invokevirtual 184, 3) := by decide +kernel
theorem dX5_merge_49 : decode cX5_merge 49 = .ok (.invokevirtual 188, 3) := by decide +kernel
theorem dX5_merge_52 : decode cX5_merge 52 = .ok (.ifCond .ne 13, 3) := by decide +kernel
theorem dX5_merge_55 : decode cX5_merge 55 = .ok (.new 179, 3) := by decide +kernel
theorem dX5_merge_58 : decode cX5_merge 58 = .ok (.dup, 1) := by decide +kernel
theorem dX5_merge_59 : decode cX5_merge 59 = .ok (.ldc 192, 2) := by decide +kernel
theorem dX5_merge_61 : decode cX5_merge 61 = .ok (.invokespecial 183, 3) := by decide +kernel
theorem dX5_merge_64 : decode cX5_merge 64 = .ok (.athrow, 1) := by decide +kernel
theorem dX5_merge_65 : decode cX5_merge 65 = .ok (.aload_n 0, 1) := by decide +kernel
theorem dX5_merge_66 : decode cX5_merge 66 = .ok (.getfield 26, 3) := by decide +kernel
theorem dX5_merge_69 : decode cX5_merge 69 = .ok (.aload_n 3, 1) := by decide +kernel
theorem dX5_merge_70 : decode cX5_merge 70 = .ok (.aload 4, 2) := by decide +kernel
theorem dX5_merge_72 : decode cX5_merge 72 = .ok (.invokevirtual 194, 3) := by decide +kernel
theorem dX5_merge_75 : decode cX5_merge 75 = .ok (.aload_n 0, 1) := by decide +kernel
theorem dX5_merge_76 : decode cX5_merge 76 = .ok (.getfield 22, 3) := by decide +kernel
theorem dX5_merge_79 : decode cX5_merge 79 = .ok (.iload_n 2, 1) := by decide +kernel
theorem dX5_merge_80 : decode cX5_merge 80 = .ok (.aload 4, 2) := by decide +kernel
theorem dX5_merge_82 : decode cX5_merge 82 = .ok (.aload_n 0, 1) := by decide +kernel
theorem dX5_merge_83 : decode cX5_merge 83 = .ok (.getfield 82, 3) := by decide +kernel
theorem dX5_merge_86 : decode cX5_merge 86 = .ok (.invokevirtual 86, 3) := by decide +kernel
theorem dX5_merge_89 : decode cX5_merge 89 = .ok (.aload 4, 2) := by decide +kernel
theorem dX5_merge_91 : decode cX5_merge 91 = .ok (.aload_n 0, 1) := by decide +kernel
theorem dX5_merge_92 : decode cX5_merge 92 = .ok (.getfield 26, 3) := by decide +kernel
theorem dX5_merge_95 : decode cX5_merge 95 = .ok (.invokevirtual 198, 3) := by decide +kernel
theorem dX5_merge_98 : decode cX5_merge 98 = .ok (.aload 4, 2) := by decide +kernel
theorem dX5_merge_100 : decode cX5_merge 100 = .ok (.invokevirtual 78, 3) := by decide +kernel
theorem dX5_merge_103 : decode cX5_merge 103 = .ok (.ireturn, 1) := by decide +kernel
theorem dX5_copy_0 : decode cX5_copy 0 = .ok (.aload_n 0, 1) := by decide +kernel
theorem dX5_copy_1 : decode cX5_copy 1 = .ok (.iload_n 1, 1) := by decide +kernel
theorem dX5_copy_2 : decode cX5_copy 2 = .ok (.invokevirtual 66, 3) := by decide +kernel
theorem dX5_copy_5 : decode cX5_copy 5 = .ok (.astore_n 3, 1) := by decide +kernel
theorem dX5_copy_6 : decode cX5_copy 6 = .ok (.aload_n 0, 1) := by decide +kernel
theorem dX5_copy_7 : decode cX5_copy 7 = .ok (.iload_n 2, 1) := by decide +kernel
theorem dX5_copy_8 : decode cX5_copy 8 = .ok (.invokevirtual 66, 3) := by decide +kernel
theorem dX5_copy_11 : decode cX5_copy 11 = .ok (.astore 4, 2) := by decide +kernel
theorem dX5_copy_13 : decode cX5_copy 13 = .ok (.aload_n 3, 1) := by decide +kernel
theorem dX5_copy_14 : decode cX5_copy 14 = .ok (.invokestatic 101, 3) := by decide +kernel
theorem dX5_copy_17 : decode cX5_copy 17 = .ok (.aload_n 0, 1) := by decide +kernel
theorem dX5_copy_18 : decode cX5_copy 18 = .ok (.getfield 22, 3) := by decide +kernel
theorem dX5_copy_21 : decode cX5_copy 21 = .ok (.iload_n 2, 1) := by decide +kernel
theorem dX5_copy_22 : decode cX5_copy 22 = .ok (.aload 4, 2) := by decide +kernel
theorem dX5_copy_24 : decode cX5_copy 24 = .ok (.aload_n 0, 1) := by decide +kernel
theorem dX5_copy_25 : decode cX5_copy 25 = .ok (.getfield 82, 3) := by decide +kernel
theorem dX5_copy_28 : decode cX5_copy 28 = .ok (.invokevirtual 86, 3) := by decide +kernel
theorem dX5_copy_31 : decode cX5_copy 31 = .ok (.aload 4, 2) := by decide +kernel
theorem dX5_copy_33 : decode cX5_copy 33 = .ok (.aload_n 3, 1) := by decide +kernel
theorem dX5_copy_34 : decode cX5_copy 34 = .ok (.invokevirtual 198, 3) := by decide +kernel
theorem dX5_copy_37 : decode cX5_copy 37 = .ok (.aload 4, 2) := by decide +kernel
theorem dX5_copy_39 : decode cX5_copy 39 = .ok (.invokevirtual 78, 3) := by decide +kernel
theorem dX5_copy_42 : decode cX5_copy 42 = .ok (.ireturn, 1) := by decide +kernel
theorem dX5_kept_0 : decode cX5_kept 0 = .ok (.aload_n 0, 1) := by decide +kernel
theorem dX5_kept_1 : decode cX5_kept 1 = .ok (.iload_n 1, 1) := by decide +kernel
theorem dX5_kept_2 : decode cX5_kept 2 = .ok (.invokevirtual 66, 3) := by decide +kernel
theorem dX5_kept_5 : decode cX5_kept 5 = .ok (.astore 4, 2) := by decide +kernel
theorem dX5_kept_7 : decode cX5_kept 7 = .ok (.aload 4, 2) := by decide +kernel
theorem dX5_kept_9 : decode cX5_kept 9 = .ok (.iload_n 2, 1) := by decide +kernel
theorem dX5_kept_10 : decode cX5_kept 10 = .ok (.invokestatic 201, 3) := by decide +kernel
theorem dX5_kept_13 : decode cX5_kept 13 = .ok (.iload_n 3, 1) := by decide +kernel
theorem dX5_kept_14 : decode cX5_kept 14 = .ok (.i2l, 1) := by decide +kernel
theorem dX5_kept_15 : decode cX5_kept 15 = .ok (.lconst 0, 1) := by decide +kernel
theorem dX5_kept_16 : decode cX5_kept 16 = .ok (.ldc2_w 204, 3) := by decide +kernel
theorem dX5_kept_19 : decode cX5_kept 19 = .ok (.invokestatic 115, 3) := by decide +kernel
theorem dX5_kept_22 : decode cX5_kept 22 = .ok (.invokestatic 74, 3) := by decide +kernel
theorem dX5_kept_25 : decode cX5_kept 25 = .ok (.aload 4, 2) := by decide +kernel
theorem dX5_kept_27 : decode cX5_kept 27 = .ok (.invokestatic 101, 3) := by decide +kernel
theorem dX5_kept_30 : decode cX5_kept 30 = .ok (.iload_n 3, 1) := by decide +kernel
theorem dX5_kept_31 : decode cX5_kept 31 = .ok (.iconst 5, 1) := by decide +kernel
theorem dX5_kept_32 : decode cX5_kept 32 = .ok (.if_icmp .ge 13, 3) := by decide +kernel
theorem dX5_kept_35 : decode cX5_kept 35 = .ok (.aload 4, 2) := by decide +kernel
theorem dX5_kept_37 : decode cX5_kept 37 = .ok (.iload_n 2, 1) := by decide +kernel
theorem dX5_kept_38 : decode cX5_kept 38 = .ok (.iload_n 3, 1) := by decide +kernel
theorem dX5_kept_39 : decode cX5_kept 39 = .ok (.invokevirtual 206, 3) := by decide +kernel
theorem dX5_kept_42 : decode cX5_kept 42 = .ok (.goto 13, 3) := by decide +kernel
theorem dX5_kept_45 : decode cX5_kept 45 = .ok (.aload_n 0, 1) := by decide +kernel
theorem dX5_kept_46 : decode cX5_kept 46 = .ok (.aload 4, 2) := by decide +kernel
theorem dX5_kept_48 : decode cX5_kept 48 = .ok (.invokevirtual 136, 3) := by decide +kernel
theorem dX5_kept_51 : decode cX5_kept 51 = .ok (.iload_n 2, 1) := by decide +kernel
theorem dX5_kept_52 : decode cX5_kept 52 = .ok (.invokevirtual 210, 3) := by decide +kernel
theorem dX5_kept_55 : decode cX5_kept 55 = .ok (.ireturn, 1) := by decide +kernel
theorem dX5_sampled_0 : decode cX5_sampled 0 = .ok (.aload_n 0, 1) := by decide +kernel
theorem dX5_sampled_1 : decode cX5_sampled 1 = .ok (.iload_n 1, 1) := by decide +kernel
theorem dX5_sampled_2 : decode cX5_sampled 2 = .ok (.invokevirtual 66, 3) := by decide +kernel
theorem dX5_sampled_5 : decode cX5_sampled 5 = .ok (.astore 4, 2) := by decide +kernel
theorem dX5_sampled_7 : decode cX5_sampled 7 = .ok (.aload_n 0, 1) := by decide +kernel
theorem dX5_sampled_8 : decode cX5_sampled 8 = .ok (.aload 4, 2) := by decide +kernel
theorem dX5_sampled_10 : decode cX5_sampled 10 = .ok (.invokevirtual 136, 3) := by decide +kernel
theorem dX5_sampled_13 : decode cX5_sampled 13 = .ok (.astore 5, 2) := by decide +kernel
theorem dX5_sampled_15 : decode cX5_sampled 15 = .ok (.aload 4, 2) := by decide +kernel
theorem dX5_sampled_17 : decode cX5_sampled 17 = .ok (.invokevirtual 213, 3) := by decide +kernel
theorem dX5_sampled_20 : decode cX5_sampled 20 = .ok (.ifCond .eq 30, 3) := by decide +kernel
theorem dX5_sampled_23 : decode cX5_sampled 23 = .ok (.iload_n 2, 1) := by decide +kernel
theorem dX5_sampled_24 : decode cX5_sampled 24 = .ok (.i2l, 1) := by decide +kernel
theorem dX5_sampled_25 : decode cX5_sampled 25 = .ok (.lconst 0, 1) := by decide +kernel
theorem dX5_sampled_26 : decode cX5_sampled 26 = .ok (.aload 5, 2) := by decide +kernel
theorem dX5_sampled_28 : decode cX5_sampled 28 = .ok (.invokevirtual 140, 3) := by decide +kernel
theorem dX5_sampled_31 : decode cX5_sampled 31 = .ok (.iconst 1, 1) := by decide +kernel
theorem dX5_sampled_32 : decode cX5_sampled 32 = .ok (.isub, 1) := by decide +kernel
theorem dX5_sampled_33 : decode cX5_sampled 33 = .ok (.i2l, 1) := by decide +kernel
theorem dX5_sampled_34 : decode cX5_sampled 34 = .ok (.invokestatic 115, 3) := by decide +kernel
theorem dX5_sampled_37 : decode cX5_sampled 37 = .ok (.ifCond .ne 13, 3) := by decide +kernel
theorem dX5_sampled_40 : decode cX5_sampled 40 = .ok (.new 216, 3) := by decide +kernel
theorem dX5_sampled_43 : decode cX5_sampled 43 = .ok (.dup, 1) := by decide +kernel
theorem dX5_sampled_44 : decode cX5_sampled 44 = .ok (.ldc 218, 2) := by decide +kernel
theorem dX5_sampled_46 : decode cX5_sampled 46 = .ok (.invokespecial 220, 3) := by decide +kernel
theorem dX5_sampled_49 : decode cX5_sampled 49 = .ok (.athrow, 1) := by decide +kernel
theorem dX5_sampled_50 : decode cX5_sampled 50 = .ok (.iload_n 3, 1) := by decide +kernel
theorem dX5_sampled_51 : decode cX5_sampled 51 = .ok (.i2l, 1) := by decide +kernel
theorem dX5_sampled_52 : decode cX5_sampled 52 = .ok (.lconst 0, 1) := by decide +kernel
theorem dX5_sampled_53 : decode cX5_sampled 53 = .ok (.ldc2_w 221, 3) := by decide +kernel
theorem dX5_sampled_56 : decode cX5_sampled 56 = .ok (.invokestatic 115, 3) := by decide +kernel
theorem dX5_sampled_59 : decode cX5_sampled 59 = .ok (.invokestatic 74, 3) := by decide +kernel
theorem dX5_sampled_62 : decode cX5_sampled 62 = .ok (.aload 4, 2) := by decide +kernel
theorem dX5_sampled_64 : decode cX5_sampled 64 = .ok (.invokestatic 101, 3) := by decide +kernel
theorem dX5_sampled_67 : decode cX5_sampled 67 = .ok (.aload 5, 2) := by decide +kernel
theorem dX5_sampled_69 : decode cX5_sampled 69 = .ok (.iload_n 2, 1) := by decide +kernel
theorem dX5_sampled_70 : decode cX5_sampled 70 = .ok (.iload_n 3, 1) := by decide +kernel
theorem dX5_sampled_71 : decode cX5_sampled 71 = .ok (.invokevirtual 223, 3) := by decide +kernel
theorem dX5_sampled_74 : decode cX5_sampled 74 = .ok (.ireturn, 1) := by decide +kernel
theorem dX5_mix_0 : decode cX5_mix 0 = .ok (.aload_n 0, 1) := by decide +kernel
theorem dX5_mix_1 : decode cX5_mix 1 = .ok (.iload_n 1, 1) := by decide +kernel
theorem dX5_mix_2 : decode cX5_mix 2 = .ok (.invokevirtual 66, 3) := by decide +kernel
theorem dX5_mix_5 : decode cX5_mix 5 = .ok (.astore_n 3, 1) := by decide +kernel
theorem dX5_mix_6 : decode cX5_mix 6 = .ok (.aload_n 3, 1) := by decide +kernel
theorem dX5_mix_7 : decode cX5_mix 7 = .ok (.iload_n 2, 1) := by decide +kernel
theorem dX5_mix_8 : decode cX5_mix 8 = .ok (.invokestatic 201, 3) := by decide +kernel
theorem dX5_mix_11 : decode cX5_mix 11 = .ok (.aload_n 3, 1) := by decide +kernel
theorem dX5_mix_12 : decode cX5_mix 12 = .ok (.invokestatic 101, 3) := by decide +kernel
theorem dX5_mix_15 : decode cX5_mix 15 = .ok (.aload_n 3, 1) := by decide +kernel
theorem dX5_mix_16 : decode cX5_mix 16 = .ok (.iload_n 2, 1) := by decide +kernel
theorem dX5_mix_17 : decode cX5_mix 17 = .ok (.invokevirtual 224, 3) := by decide +kernel
theorem dX5_mix_20 : decode cX5_mix 20 = .ok (.lreturn, 1) := by decide +kernel
theorem dX5_commonKey_0 : decode cX5_commonKey 0 = .ok (.aload_n 0, 1) := by decide +kernel
theorem dX5_commonKey_1 : decode cX5_commonKey 1 = .ok (.aload_n 0, 1) := by decide +kernel
theorem dX5_commonKey_2 : decode cX5_commonKey 2 = .ok (.iload_n 1, 1) := by decide +kernel
theorem dX5_commonKey_3 : decode cX5_commonKey 3 = .ok (.invokevirtual 66, 3) := by decide +kernel
theorem dX5_commonKey_6 : decode cX5_commonKey 6 = .ok (.invokevirtual 228, 3) := by decide +kernel
theorem dX5_commonKey_9 : decode cX5_commonKey 9 = .ok (.astore_n 2, 1) := by decide +kernel
theorem dX5_commonKey_10 : decode cX5_commonKey 10 = .ok (.bipush 99, 2) := by decide +kernel
theorem dX5_commonKey_12 : decode cX5_commonKey 12 = .ok (.istore_n 3, 1) := by decide +kernel
theorem dX5_commonKey_13 : decode cX5_commonKey 13 = .ok (.iconst 0, 1) := by decide +kernel
theorem dX5_commonKey_14 : decode cX5_commonKey 14 = .ok (.istore 4, 2) := by decide +kernel
theorem dX5_commonKey_16 : decode cX5_commonKey 16 = .ok (.iconst 0, 1) := by decide +kernel
theorem dX5_commonKey_17 : decode cX5_commonKey 17 = .ok (.istore 5, 2) := by decide +kernel
theorem dX5_commonKey_19 : decode cX5_commonKey 19 = .ok (.iload 5, 2) := by decide +kernel
theorem dX5_commonKey_21 : decode cX5_commonKey 21 = .ok (.aload_n 2, 1) := by decide +kernel
theorem dX5_commonKey_22 : decode cX5_commonKey 22 = .ok (.invokevirtual 140, 3) := by decide +kernel
theorem dX5_commonKey_25 : decode cX5_commonKey 25 = .ok (.if_icmp .ge 53, 3) := by decide +kernel
theorem dX5_commonKey_28 : decode cX5_commonKey 28 = .ok (.aload_n 2, 1) := by decide +kernel
theorem dX5_commonKey_29 : decode cX5_commonKey 29 = .ok (.iload 5, 2) := by decide +kernel
theorem dX5_commonKey_31 : decode cX5_commonKey 31 = .ok (.iconst 1, 1) := by decide +kernel
theorem dX5_commonKey_32 : decode cX5_commonKey 32 = .ok (.invokevirtual 223, 3) := by decide +kernel
theorem dX5_commonKey_35 : decode cX5_commonKey 35 = .ok (.istore 6, 2) := by decide +kernel
theorem dX5_commonKey_37 : decode cX5_commonKey 37 = .ok (.aload_n 2, 1) := by decide +kernel
theorem dX5_commonKey_38 : decode cX5_commonKey 38 = .ok (.iload 6, 2) := by decide +kernel
theorem dX5_commonKey_40 : decode cX5_commonKey 40 = .ok (.invokevirtual 231, 3) := by decide +kernel
theorem dX5_commonKey_43 : decode cX5_commonKey 43 = .ok (.istore 7, 2) := by decide +kernel
theorem dX5_commonKey_45 : decode cX5_commonKey 45 = .ok (.iload 7, 2) := by decide +kernel
theorem dX5_commonKey_47 : decode cX5_commonKey 47 = .ok (.iload 4, 2) := by decide +kernel
theorem dX5_commonKey_49 : decode cX5_commonKey 49 = .ok (.if_icmp .gt 16, 3) := by decide +kernel
theorem dX5_commonKey_52 : decode cX5_commonKey 52 = .ok (.iload 7, 2) := by decide +kernel
theorem dX5_commonKey_54 : decode cX5_commonKey 54 = .ok (.iload 4, 2) := by decide +kernel
theorem dX5_commonKey_56 : decode cX5_commonKey 56 = .ok (.if_icmp .ne 16, 3) := by decide +kernel
theorem dX5_commonKey_59 : decode cX5_commonKey 59 = .ok (.iload 6, 2) := by decide +kernel
theorem dX5_commonKey_61 : decode cX5_commonKey 61 = .ok (.iload_n 3, 1) := by decide +kernel
theorem dX5_commonKey_62 : decode cX5_commonKey 62 = .ok (.if_icmp .ge 10, 3) := by decide +kernel
theorem dX5_commonKey_65 : decode cX5_commonKey 65 = .ok (.iload 6, 2) := by decide +kernel
theorem dX5_commonKey_67 : decode cX5_commonKey 67 = .ok (.istore_n 3, 1) := by decide +kernel
theorem dX5_commonKey_68 : decode cX5_commonKey 68 = .ok (.iload 7, 2) := by decide +kernel
theorem dX5_commonKey_70 : decode cX5_commonKey 70 = .ok (.istore 4, 2) := by decide +kernel
theorem dX5_commonKey_72 : decode cX5_commonKey 72 = .ok (.iinc 5 1, 3) := by decide +kernel
theorem dX5_commonKey_75 : decode cX5_commonKey 75 = .ok (.goto (-56), 3) := by decide +kernel
theorem dX5_commonKey_78 : decode cX5_commonKey 78 = .ok (.iload_n 3, 1) := by decide +kernel
theorem dX5_commonKey_79 : decode cX5_commonKey 79 = .ok (.ireturn, 1) := by decide +kernel
theorem dX5_reason_0 : decode cX5_reason 0 = .ok (.aload_n 0, 1) := by decide +kernel
theorem dX5_reason_1 : decode cX5_reason 1 = .ok (.iload_n 1, 1) := by decide +kernel
theorem dX5_reason_2 : decode cX5_reason 2 = .ok (.invokevirtual 66, 3) := by decide +kernel
theorem dX5_reason_5 : decode cX5_reason 5 = .ok (.astore_n 3, 1) := by decide +kernel
theorem dX5_reason_6 : decode cX5_reason 6 = .ok (.aload_n 3, 1) := by decide +kernel
theorem dX5_reason_7 : decode cX5_reason 7 = .ok (.iload_n 2, 1) := by decide +kernel
theorem dX5_reason_8 : decode cX5_reason 8 = .ok (.invokestatic 201, 3) := by decide +kernel
theorem dX5_reason_11 : decode cX5_reason 11 = .ok (.aload_n 3, 1) := by decide +kernel
theorem dX5_reason_12 : decode cX5_reason 12 = .ok (.invokestatic 101, 3) := by decide +kernel
theorem dX5_reason_15 : decode cX5_reason 15 = .ok (.aload_n 0, 1) := by decide +kernel
theorem dX5_reason_16 : decode cX5_reason 16 = .ok (.aload_n 3, 1) := by decide +kernel
theorem dX5_reason_17 : decode cX5_reason 17 = .ok (.invokevirtual 136, 3) := by decide +kernel
theorem dX5_reason_20 : decode cX5_reason 20 = .ok (.astore 4, 2) := by decide +kernel
theorem dX5_reason_22 : decode cX5_reason 22 = .ok (.aload 4, 2) := by decide +kernel
theorem dX5_reason_24 : decode cX5_reason 24 = .ok (.iload_n 2, 1) := by decide +kernel
theorem dX5_reason_25 : decode cX5_reason 25 = .ok (.invokevirtual 210, 3) := by decide +kernel
theorem dX5_reason_28 : decode cX5_reason 28 = .ok (.ifCond .lt 5, 3) := by decide +kernel
theorem dX5_reason_31 : decode cX5_reason 31 = .ok (.iconst 0, 1) := by decide +kernel
theorem dX5_reason_32 : decode cX5_reason 32 = .ok (.ireturn, 1) := by decide +kernel
theorem dX5_reason_33 : decode cX5_reason 33 = .ok (.aload 4, 2) := by decide +kernel
theorem dX5_reason_35 : decode cX5_reason 35 = .ok (.iload_n 2, 1) := by decide +kernel
theorem dX5_reason_36 : decode cX5_reason 36 = .ok (.invokevirtual 234, 3) := by decide +kernel
theorem dX5_reason_39 : decode cX5_reason 39 = .ok (.ifCond .ge 5, 3) := by decide +kernel
theorem dX5_reason_42 : decode cX5_reason 42 = .ok (.iconst 1, 1) := by decide +kernel
theorem dX5_reason_43 : decode cX5_reason 43 = .ok (.ireturn, 1) := by decide +kernel
theorem dX5_reason_44 : decode cX5_reason 44 = .ok (.aload_n 3, 1) := by decide +kernel
theorem dX5_reason_45 : decode cX5_reason 45 = .ok (.getfield 124, 3) := by decide +kernel
theorem dX5_reason_48 : decode cX5_reason 48 = .ok (.iconst 2, 1) := by decide +kernel
theorem dX5_reason_49 : decode cX5_reason 49 = .ok (.if_icmp .ne 15, 3) := by decide +kernel
theorem dX5_reason_52 : decode cX5_reason 52 = .ok (.aload_n 3, 1) := by decide +kernel
theorem dX5_reason_53 : decode cX5_reason 53 = .ok (.iload_n 2, 1) := by decide +kernel
theorem dX5_reason_54 : decode cX5_reason 54 = .ok (.invokevirtual 237, 3) := by decide +kernel
theorem dX5_reason_57 : decode cX5_reason 57 = .ok (.ifCond .ne 7, 3) := by decide +kernel
theorem dX5_reason_60 : decode cX5_reason 60 = .ok (.iconst 3, 1) := by decide +kernel
theorem dX5_reason_61 : decode cX5_reason 61 = .ok (.goto 4, 3) := by decide +kernel
theorem dX5_reason_64 : decode cX5_reason 64 = .ok (.iconst 2, 1) := by decide +kernel
theorem dX5_reason_65 : decode cX5_reason 65 = .ok (.ireturn, 1) := by decide +kernel
theorem dX5_needed_0 : decode cX5_needed 0 = .ok (.aload_n 0, 1) := by decide +kernel
theorem dX5_needed_1 : decode cX5_needed 1 = .ok (.iload_n 1, 1) := by decide +kernel
theorem dX5_needed_2 : decode cX5_needed 2 = .ok (.invokevirtual 66, 3) := by decide +kernel
theorem dX5_needed_5 : decode cX5_needed 5 = .ok (.astore_n 3, 1) := by decide +kernel
theorem dX5_needed_6 : decode cX5_needed 6 = .ok (.aload_n 3, 1) := by decide +kernel
theorem dX5_needed_7 : decode cX5_needed 7 = .ok (.iload_n 2, 1) := by decide +kernel
theorem dX5_needed_8 : decode cX5_needed 8 = .ok (.invokestatic 201, 3) := by decide +kernel
theorem dX5_needed_11 : decode cX5_needed 11 = .ok (.aload_n 3, 1) := by decide +kernel
theorem dX5_needed_12 : decode cX5_needed 12 = .ok (.invokestatic 101, 3) := by decide +kernel
theorem dX5_needed_15 : decode cX5_needed 15 = .ok (.aload_n 0, 1) := by decide +kernel
theorem dX5_needed_16 : decode cX5_needed 16 = .ok (.aload_n 3, 1) := by decide +kernel
theorem dX5_needed_17 : decode cX5_needed 17 = .ok (.invokevirtual 136, 3) := by decide +kernel
theorem dX5_needed_20 : decode cX5_needed 20 = .ok (.iload_n 2, 1) := by decide +kernel
theorem dX5_needed_21 : decode cX5_needed 21 = .ok (.invokevirtual 234, 3) := by decide +kernel
theorem dX5_needed_24 : decode cX5_needed 24 = .ok (.istore 4, 2) := by decide +kernel
theorem dX5_needed_26 : decode cX5_needed 26 = .ok (.iload 4, 2) := by decide +kernel
theorem dX5_needed_28 : decode cX5_needed 28 = .ok (.ifCond .ge 13, 3) := by decide +kernel
theorem dX5_needed_31 : decode cX5_needed 31 = .ok (.new 240, 3) := by decide +kernel
theorem dX5_needed_34 : decode cX5_needed 34 = .ok (.dup, 1) := by decide +kernel
theorem dX5_needed_35 : decode cX5_needed 35 = .ok (.ldc 242, 2) := by decide +kernel
theorem dX5_needed_37 : decode cX5_needed 37 = .ok (.invokespecial 244, 3) := by decide +kernel
theorem dX5_needed_40 : decode cX5_needed 40 = .ok (.athrow, 1) := by decide +kernel
theorem dX5_needed_41 : decode cX5_needed 41 = .ok (.iload 4, 2) := by decide +kernel
theorem dX5_needed_43 : decode cX5_needed 43 = .ok (.iconst 1, 1) := by decide +kernel
theorem dX5_needed_44 : decode cX5_needed 44 = .ok (.iadd, 1) := by decide +kernel
theorem dX5_needed_45 : decode cX5_needed 45 = .ok (.ireturn, 1) := by decide +kernel
theorem dX5_margin_0 : decode cX5_margin 0 = .ok (.aload_n 0, 1) := by decide +kernel
theorem dX5_margin_1 : decode cX5_margin 1 = .ok (.iload_n 1, 1) := by decide +kernel
theorem dX5_margin_2 : decode cX5_margin 2 = .ok (.invokevirtual 66, 3) := by decide +kernel
theorem dX5_margin_5 : decode cX5_margin 5 = .ok (.astore_n 3, 1) := by decide +kernel
theorem dX5_margin_6 : decode cX5_margin 6 = .ok (.aload_n 3, 1) := by decide +kernel
theorem dX5_margin_7 : decode cX5_margin 7 = .ok (.iload_n 2, 1) := by decide +kernel
theorem dX5_margin_8 : decode cX5_margin 8 = .ok (.invokestatic 201, 3) := by decide +kernel
theorem dX5_margin_11 : decode cX5_margin 11 = .ok (.aload_n 3, 1) := by decide +kernel
theorem dX5_margin_12 : decode cX5_margin 12 = .ok (.invokestatic 101, 3) := by decide +kernel
theorem dX5_margin_15 : decode cX5_margin 15 = .ok (.aload_n 0, 1) := by decide +kernel
theorem dX5_margin_16 : decode cX5_margin 16 = .ok (.aload_n 3, 1) := by decide +kernel
theorem dX5_margin_17 : decode cX5_margin 17 = .ok (.invokevirtual 136, 3) := by decide +kernel
theorem dX5_margin_20 : decode cX5_margin 20 = .ok (.astore 4, 2) := by decide +kernel
theorem dX5_margin_22 : decode cX5_margin 22 = .ok (.aload 4, 2) := by decide +kernel
theorem dX5_margin_24 : decode cX5_margin 24 = .ok (.iload_n 2, 1) := by decide +kernel
theorem dX5_margin_25 : decode cX5_margin 25 = .ok (.invokevirtual 210, 3) := by decide +kernel
theorem dX5_margin_28 : decode cX5_margin 28 = .ok (.ifCond .ge 13, 3) := by decide +kernel
theorem dX5_margin_31 : decode cX5_margin 31 = .ok (.new 240, 3) := by decide +kernel
theorem dX5_margin_34 : decode cX5_margin 34 = .ok (.dup, 1) := by decide +kernel
theorem dX5_margin_35 : decode cX5_margin 35 = .ok (.ldc 245, 2) := by decide +kernel
theorem dX5_margin_37 : decode cX5_margin 37 = .ok (.invokespecial 244, 3) := by decide +kernel
theorem dX5_margin_40 : decode cX5_margin 40 = .ok (.athrow, 1) := by decide +kernel
theorem dX5_margin_41 : decode cX5_margin 41 = .ok (.aload_n 3, 1) := by decide +kernel
theorem dX5_margin_42 : decode cX5_margin 42 = .ok (.iload_n 2, 1) := by decide +kernel
theorem dX5_margin_43 : decode cX5_margin 43 = .ok (.invokevirtual 237, 3) := by decide +kernel
theorem dX5_margin_46 : decode cX5_margin 46 = .ok (.aload 4, 2) := by decide +kernel
theorem dX5_margin_48 : decode cX5_margin 48 = .ok (.iload_n 2, 1) := by decide +kernel
theorem dX5_margin_49 : decode cX5_margin 49 = .ok (.invokevirtual 234, 3) := by decide +kernel
theorem dX5_margin_52 : decode cX5_margin 52 = .ok (.isub, 1) := by decide +kernel
theorem dX5_margin_53 : decode cX5_margin 53 = .ok (.ireturn, 1) := by decide +kernel
theorem dX5_stratum_0 : decode cX5_stratum 0 = .ok (.aload_n 0, 1) := by decide +kernel
theorem dX5_stratum_1 : decode cX5_stratum 1 = .ok (.iload_n 1, 1) := by decide +kernel
theorem dX5_stratum_2 : decode cX5_stratum 2 = .ok (.invokevirtual 66, 3) := by decide +kernel
theorem dX5_stratum_5 : decode cX5_stratum 5 = .ok (.astore 4, 2) := by decide +kernel
theorem dX5_stratum_7 : decode cX5_stratum 7 = .ok (.iload_n 2, 1) := by decide +kernel
theorem dX5_stratum_8 : decode cX5_stratum 8 = .ok (.invokestatic 149, 3) := by decide +kernel
theorem dX5_stratum_11 : decode cX5_stratum 11 = .ok (.iload_n 3, 1) := by decide +kernel
theorem dX5_stratum_12 : decode cX5_stratum 12 = .ok (.i2l, 1) := by decide +kernel
theorem dX5_stratum_13 : decode cX5_stratum 13 = .ok (.lconst 0, 1) := by decide +kernel
theorem dX5_stratum_14 : decode cX5_stratum 14 = .ok (.ldc2_w 204, 3) := by decide +kernel
theorem dX5_stratum_17 : decode cX5_stratum 17 = .ok (.invokestatic 115, 3) := by decide +kernel
theorem dX5_stratum_20 : decode cX5_stratum 20 = .ok (.invokestatic 74, 3) := by decide +kernel
theorem dX5_stratum_23 : decode cX5_stratum 23 = .ok (.aload 4, 2) := by decide +kernel
theorem dX5_stratum_25 : decode cX5_stratum 25 = .ok (.invokestatic 101, 3) := by decide +kernel
theorem dX5_stratum_28 : decode cX5_stratum 28 = .ok (.aload_n 0, 1) := by decide +kernel
theorem dX5_stratum_29 : decode cX5_stratum 29 = .ok (.aload 4, 2) := by decide +kernel
theorem dX5_stratum_31 : decode cX5_stratum 31 = .ok (.invokevirtual 136, 3) := by decide +kernel
theorem dX5_stratum_34 : decode cX5_stratum 34 = .ok (.astore 5, 2) := by decide +kernel
theorem dX5_stratum_36 : decode cX5_stratum 36 = .ok (.iload_n 3, 1) := by decide +kernel
theorem dX5_stratum_37 : decode cX5_stratum 37 = .ok (.iconst 2, 1) := by decide +kernel
theorem dX5_stratum_38 : decode cX5_stratum 38 = .ok (.irem, 1) := by decide +kernel
theorem dX5_stratum_39 : decode cX5_stratum 39 = .ok (.iconst 1, 1) := by decide +kernel
theorem dX5_stratum_40 : decode cX5_stratum 40 = .ok (.if_icmp .ne 7, 3) := by decide +kernel
theorem dX5_stratum_43 : decode cX5_stratum 43 = .ok (.iconst 1, 1) := by decide +kernel
theorem dX5_stratum_44 : decode cX5_stratum 44 = .ok (.goto 4, 3) := by decide +kernel
theorem dX5_stratum_47 : decode cX5_stratum 47 = .ok (.iconst 0, 1) := by decide +kernel
theorem dX5_stratum_48 : decode cX5_stratum 48 = .ok (.istore 6, 2) := by decide +kernel
theorem dX5_stratum_50 : decode cX5_stratum 50 = .ok (.iconst 0, 1) := by decide +kernel
theorem dX5_stratum_51 : decode cX5_stratum 51 = .ok (.istore 7, 2) := by decide +kernel
theorem dX5_stratum_53 : decode cX5_stratum 53 = .ok (.iconst 0, 1) := by decide +kernel
theorem dX5_stratum_54 : decode cX5_stratum 54 = .ok (.istore 8, 2) := by decide +kernel
theorem dX5_stratum_56 : decode cX5_stratum 56 = .ok (.iload 8, 2) := by decide +kernel
theorem dX5_stratum_58 : decode cX5_stratum 58 = .ok (.aload 4, 2) := by decide +kernel
theorem dX5_stratum_60 : decode cX5_stratum 60 = .ok (.invokevirtual 78, 3) := by decide +kernel
theorem dX5_stratum_63 : decode cX5_stratum 63 = .ok (.if_icmp .ge 67, 3) := by decide +kernel
theorem dX5_stratum_66 : decode cX5_stratum 66 = .ok (.aload 4, 2) := by decide +kernel
theorem dX5_stratum_68 : decode cX5_stratum 68 = .ok (.iload 8, 2) := by decide +kernel
theorem dX5_stratum_70 : decode cX5_stratum 70 = .ok (.iconst 2, 1) := by decide +kernel
theorem dX5_stratum_71 : decode cX5_stratum 71 = .ok (.invokevirtual 206, 3) := by decide +kernel
theorem dX5_stratum_74 : decode cX5_stratum 74 = .ok (.iload_n 2, 1) := by decide +kernel
theorem dX5_stratum_75 : decode cX5_stratum 75 = .ok (.if_icmp .ne 49, 3) := by decide +kernel
theorem dX5_stratum_78 : decode cX5_stratum 78 = .ok (.iload 6, 2) := by decide +kernel
theorem dX5_stratum_80 : decode cX5_stratum 80 = .ok (.ifCond .eq 13, 3) := by decide +kernel
theorem dX5_stratum_83 : decode cX5_stratum 83 = .ok (.aload 5, 2) := by decide +kernel
theorem dX5_stratum_85 : decode cX5_stratum 85 = .ok (.iload 8, 2) := by decide +kernel
theorem dX5_stratum_87 : decode cX5_stratum 87 = .ok (.invokevirtual 210, 3) := by decide +kernel
theorem dX5_stratum_90 : decode cX5_stratum 90 = .ok (.ifCond .lt 34, 3) := by decide +kernel
theorem dX5_stratum_93 : decode cX5_stratum 93 = .ok (.iload 7, 2) := by decide +kernel
theorem dX5_stratum_95 : decode cX5_stratum 95 = .ok (.iload_n 3, 1) := by decide +kernel
theorem dX5_stratum_96 : decode cX5_stratum 96 = .ok (.iconst 2, 1) := by decide +kernel
theorem dX5_stratum_97 : decode cX5_stratum 97 = .ok (.if_icmp .ge 7, 3) := by decide +kernel
theorem dX5_stratum_100 : decode cX5_stratum 100 = .ok (.iconst 1, 1) := by decide +kernel
theorem dX5_stratum_101 : decode cX5_stratum 101 = .ok (.goto 20, 3) := by decide +kernel
theorem dX5_stratum_104 : decode cX5_stratum 104 = .ok (.aload 4, 2) := by decide +kernel
theorem dX5_stratum_106 : decode cX5_stratum 106 = .ok (.iload 8, 2) := by decide +kernel
theorem dX5_stratum_108 : decode cX5_stratum 108 = .ok (.iload_n 3, 1) := by decide +kernel
theorem dX5_stratum_109 : decode cX5_stratum 109 = .ok (.iconst 4, 1) := by decide +kernel
theorem dX5_stratum_110 : decode cX5_stratum 110 = .ok (.if_icmp .ge 7, 3) := by decide +kernel
theorem dX5_stratum_113 : decode cX5_stratum 113 = .ok (.iconst 4, 1) := by decide +kernel
theorem dX5_stratum_114 : decode cX5_stratum 114 = .ok (.goto 4, 3) := by decide +kernel
theorem dX5_stratum_117 : decode cX5_stratum 117 = .ok (.iconst 3, 1) := by decide +kernel
theorem dX5_stratum_118 : decode cX5_stratum 118 = .ok (.invokevirtual 206, 3) := by decide +kernel
theorem dX5_stratum_121 : decode cX5_stratum 121 = .ok (.iadd, 1) := by decide +kernel
theorem dX5_stratum_122 : decode cX5_stratum 122 = .ok (.istore 7, 2) := by decide +kernel
theorem dX5_stratum_124 : decode cX5_stratum 124 = .ok (.iinc 8 1, 3) := by decide +kernel
theorem dX5_stratum_127 : decode cX5_stratum 127 = .ok (.goto (-71), 3) := by decide +kernel
theorem dX5_stratum_130 : decode cX5_stratum 130 = .ok (.iload 7, 2) := by decide +kernel
theorem dX5_stratum_132 : decode cX5_stratum 132 = .ok (.ireturn, 1) := by decide +kernel
theorem dX5_estimateKeys_0 : decode cX5_estimateKeys 0 = .ok (.aload_n 0, 1) := by decide +kernel
theorem dX5_estimateKeys_1 : decode cX5_estimateKeys 1 = .ok (.iload_n 1, 1) := by decide +kernel
theorem dX5_estimateKeys_2 : decode cX5_estimateKeys 2 = .ok (.invokevirtual 66, 3) := by decide +kernel
theorem dX5_estimateKeys_5 : decode cX5_estimateKeys 5 = .ok (.astore 5, 2) := by decide +kernel
theorem dX5_estimateKeys_7 : decode cX5_estimateKeys 7 = .ok (.aload 5, 2) := by decide +kernel
theorem dX5_estimateKeys_9 : decode cX5_estimateKeys 9 = .ok (.invokestatic 101, 3) := by decide +kernel
theorem dX5_estimateKeys_12 : decode cX5_estimateKeys 12 = .ok (.aload_n 0, 1) := by decide +kernel
theorem dX5_estimateKeys_13 : decode cX5_estimateKeys 13 = .ok (.aload 5, 2) := by decide +kernel
theorem dX5_estimateKeys_15 : decode cX5_estimateKeys 15 = .ok (.invokevirtual 136, 3) := by decide +kernel
theorem dX5_estimateKeys_18 : decode cX5_estimateKeys 18 = .ok (.iload 4, 2) := by decide +kernel
theorem dX5_estimateKeys_20 : decode cX5_estimateKeys 20 = .ok (.ifCond .eq 7, 3) := by decide +kernel
theorem dX5_estimateKeys_23 : decode cX5_estimateKeys 23 = .ok (.iconst 3, 1) := by decide +kernel
theorem dX5_estimateKeys_24 : decode cX5_estimateKeys 24 = .ok (.goto 4, 3) := by decide +kernel
theorem dX5_estimateKeys_27 : decode cX5_estimateKeys 27 = .ok (.iconst 4, 1) := by decide +kernel
theorem dX5_estimateKeys_28 : decode cX5_estimateKeys 28 = .ok (.iload_n 2, 1) := by decide +kernel
theorem dX5_estimateKeys_29 : decode cX5_estimateKeys 29 = .ok (.iload_n 3, 1) := by decide +kernel
theorem dX5_estimateKeys_30 : decode cX5_estimateKeys 30 = .ok (.invokevirtual 247, 3) := by decide +kernel
theorem dX5_estimateKeys_33 : decode cX5_estimateKeys 33 = .ok (.lreturn, 1) := by decide +kernel
theorem dX5_estimate_0 : decode cX5_estimate 0 = .ok (.aload_n 0, 1) := by decide +kernel
theorem dX5_estimate_1 : decode cX5_estimate 1 = .ok (.iload_n 1, 1) := by decide +kernel
theorem dX5_estimate_2 : decode cX5_estimate 2 = .ok (.invokevirtual 66, 3) := by decide +kernel
theorem dX5_estimate_5 : decode cX5_estimate 5 = .ok (.astore_n 3, 1) := by decide +kernel
theorem dX5_estimate_6 : decode cX5_estimate 6 = .ok (.iload_n 2, 1) := by decide +kernel
theorem dX5_estimate_7 : decode cX5_estimate 7 = .ok (.i2l, 1) := by decide +kernel
theorem dX5_estimate_8 : decode cX5_estimate 8 = .ok (.lconst 0, 1) := by decide +kernel
theorem dX5_estimate_9 : decode cX5_estimate 9 = .ok (.ldc2_w 251, 3) := by decide +kernel
theorem dX5_estimate_12 : decode cX5_estimate 12 = .ok (.invokestatic 115, 3) := by decide +kernel
theorem dX5_estimate_15 : decode cX5_estimate 15 = .ok (.invokestatic 74, 3) := by decide +kernel
theorem dX5_estimate_18 : decode cX5_estimate 18 = .ok (.aload_n 3, 1) := by decide +kernel
theorem dX5_estimate_19 : decode cX5_estimate 19 = .ok (.invokestatic 101, 3) := by decide +kernel
theorem dX5_estimate_22 : decode cX5_estimate 22 = .ok (.aload_n 0, 1) := by decide +kernel
theorem dX5_estimate_23 : decode cX5_estimate 23 = .ok (.aload_n 3, 1) := by decide +kernel
theorem dX5_estimate_24 : decode cX5_estimate 24 = .ok (.invokevirtual 136, 3) := by decide +kernel
theorem dX5_estimate_27 : decode cX5_estimate 27 = .ok (.astore 4, 2) := by decide +kernel
theorem dX5_estimate_29 : decode cX5_estimate 29 = .ok (.iload_n 2, 1) := by decide +kernel
theorem dX5_estimate_30 : decode cX5_estimate 30 = .ok (.ifCond .ne 9, 3) := by decide +kernel
theorem dX5_estimate_33 : decode cX5_estimate 33 = .ok (.aload 4, 2) := by decide +kernel
theorem dX5_estimate_35 : decode cX5_estimate 35 = .ok (.invokevirtual 253, 3) := by decide +kernel
theorem dX5_estimate_38 : decode cX5_estimate 38 = .ok (.lreturn, 1) := by decide +kernel
theorem dX5_estimate_39 : decode cX5_estimate 39 = .ok (.aload 4, 2) := by decide +kernel
theorem dX5_estimate_41 : decode cX5_estimate 41 = .ok (.iload_n 2, 1) := by decide +kernel
theorem dX5_estimate_42 : decode cX5_estimate 42 = .ok (.iconst 1, 1) := by decide +kernel
theorem dX5_estimate_43 : decode cX5_estimate 43 = .ok (.if_icmp .ne 7, 3) := by decide +kernel
theorem dX5_estimate_46 : decode cX5_estimate 46 = .ok (.iconst 4, 1) := by decide +kernel
theorem dX5_estimate_47 : decode cX5_estimate 47 = .ok (.goto 4, 3) := by decide +kernel
theorem dX5_estimate_50 : decode cX5_estimate 50 = .ok (.iconst 3, 1) := by decide +kernel
theorem dX5_estimate_51 : decode cX5_estimate 51 = .ok (.iconst 0, 1) := by decide +kernel
theorem dX5_estimate_52 : decode cX5_estimate 52 = .ok (.bipush 99, 2) := by decide +kernel
theorem dX5_estimate_54 : decode cX5_estimate 54 = .ok (.invokevirtual 247, 3) := by decide +kernel
theorem dX5_estimate_57 : decode cX5_estimate 57 = .ok (.lreturn, 1) := by decide +kernel
theorem dX5_truth_0 : decode cX5_truth 0 = .ok (.aload_n 0, 1) := by decide +kernel
theorem dX5_truth_1 : decode cX5_truth 1 = .ok (.iload_n 1, 1) := by decide +kernel
theorem dX5_truth_2 : decode cX5_truth 2 = .ok (.invokevirtual 66, 3) := by decide +kernel
theorem dX5_truth_5 : decode cX5_truth 5 = .ok (.astore_n 3, 1) := by decide +kernel
theorem dX5_truth_6 : decode cX5_truth 6 = .ok (.iload_n 2, 1) := by decide +kernel
theorem dX5_truth_7 : decode cX5_truth 7 = .ok (.i2l, 1) := by decide +kernel
theorem dX5_truth_8 : decode cX5_truth 8 = .ok (.lconst 0, 1) := by decide +kernel
theorem dX5_truth_9 : decode cX5_truth 9 = .ok (.ldc2_w 251, 3) := by decide +kernel
theorem dX5_truth_12 : decode cX5_truth 12 = .ok (.invokestatic 115, 3) := by decide +kernel
theorem dX5_truth_15 : decode cX5_truth 15 = .ok (.invokestatic 74, 3) := by decide +kernel
theorem dX5_truth_18 : decode cX5_truth 18 = .ok (.aload_n 3, 1) := by decide +kernel
theorem dX5_truth_19 : decode cX5_truth 19 = .ok (.invokestatic 101, 3) := by decide +kernel
theorem dX5_truth_22 : decode cX5_truth 22 = .ok (.aload_n 0, 1) := by decide +kernel
theorem dX5_truth_23 : decode cX5_truth 23 = .ok (.aload_n 3, 1) := by decide +kernel
theorem dX5_truth_24 : decode cX5_truth 24 = .ok (.invokevirtual 136, 3) := by decide +kernel
theorem dX5_truth_27 : decode cX5_truth 27 = .ok (.astore 4, 2) := by decide +kernel
theorem dX5_truth_29 : decode cX5_truth 29 = .ok (.lconst 0, 1) := by decide +kernel
theorem dX5_truth_30 : decode cX5_truth 30 = .ok (.lstore 5, 2) := by decide +kernel
theorem dX5_truth_32 : decode cX5_truth 32 = .ok (.iconst 0, 1) := by decide +kernel
theorem dX5_truth_33 : decode cX5_truth 33 = .ok (.istore 7, 2) := by decide +kernel
theorem dX5_truth_35 : decode cX5_truth 35 = .ok (.iload 7, 2) := by decide +kernel
theorem dX5_truth_37 : decode cX5_truth 37 = .ok (.aload_n 3, 1) := by decide +kernel
theorem dX5_truth_38 : decode cX5_truth 38 = .ok (.invokevirtual 78, 3) := by decide +kernel
theorem dX5_truth_41 : decode cX5_truth 41 = .ok (.if_icmp .ge 49, 3) := by decide +kernel
theorem dX5_truth_44 : decode cX5_truth 44 = .ok (.aload 4, 2) := by decide +kernel
theorem dX5_truth_46 : decode cX5_truth 46 = .ok (.iload 7, 2) := by decide +kernel
theorem dX5_truth_48 : decode cX5_truth 48 = .ok (.invokevirtual 234, 3) := by decide +kernel
theorem dX5_truth_51 : decode cX5_truth 51 = .ok (.ifCond .lt 33, 3) := by decide +kernel
theorem dX5_truth_54 : decode cX5_truth 54 = .ok (.lload 5, 2) := by decide +kernel
theorem dX5_truth_56 : decode cX5_truth 56 = .ok (.iload_n 2, 1) := by decide +kernel
theorem dX5_truth_57 : decode cX5_truth 57 = .ok (.ifCond .ne 7, 3) := by decide +kernel
theorem dX5_truth_60 : decode cX5_truth 60 = .ok (.lconst 1, 1) := by decide +kernel
theorem dX5_truth_61 : decode cX5_truth 61 = .ok (.goto 20, 3) := by decide +kernel
theorem dX5_truth_64 : decode cX5_truth 64 = .ok (.aload_n 3, 1) := by decide +kernel
theorem dX5_truth_65 : decode cX5_truth 65 = .ok (.iload 7, 2) := by decide +kernel
theorem dX5_truth_67 : decode cX5_truth 67 = .ok (.iload_n 2, 1) := by decide +kernel
theorem dX5_truth_68 : decode cX5_truth 68 = .ok (.iconst 1, 1) := by decide +kernel
theorem dX5_truth_69 : decode cX5_truth 69 = .ok (.if_icmp .ne 7, 3) := by decide +kernel
theorem dX5_truth_72 : decode cX5_truth 72 = .ok (.iconst 4, 1) := by decide +kernel
theorem dX5_truth_73 : decode cX5_truth 73 = .ok (.goto 4, 3) := by decide +kernel
theorem dX5_truth_76 : decode cX5_truth 76 = .ok (.iconst 3, 1) := by decide +kernel
theorem dX5_truth_77 : decode cX5_truth 77 = .ok (.invokevirtual 206, 3) := by decide +kernel
theorem dX5_truth_80 : decode cX5_truth 80 = .ok (.i2l, 1) := by decide +kernel
theorem dX5_truth_81 : decode cX5_truth 81 = .ok (.ladd, 1) := by decide +kernel
theorem dX5_truth_82 : decode cX5_truth 82 = .ok (.lstore 5, 2) := by decide +kernel
theorem dX5_truth_84 : decode cX5_truth 84 = .ok (.iinc 7 1, 3) := by decide +kernel
theorem dX5_truth_87 : decode cX5_truth 87 = .ok (.goto (-52), 3) := by decide +kernel
theorem dX5_truth_90 : decode cX5_truth 90 = .ok (.lload 5, 2) := by decide +kernel
theorem dX5_truth_92 : decode cX5_truth 92 = .ok (.lreturn, 1) := by decide +kernel
theorem dX5_quantile_0 : decode cX5_quantile 0 = .ok (.aload_n 0, 1) := by decide +kernel
theorem dX5_quantile_1 : decode cX5_quantile 1 = .ok (.iload_n 1, 1) := by decide +kernel
theorem dX5_quantile_2 : decode cX5_quantile 2 = .ok (.invokevirtual 66, 3) := by decide +kernel
theorem dX5_quantile_5 : decode cX5_quantile 5 = .ok (.astore_n 3, 1) := by decide +kernel
theorem dX5_quantile_6 : decode cX5_quantile 6 = .ok (.iload_n 2, 1) := by decide +kernel
theorem dX5_quantile_7 : decode cX5_quantile 7 = .ok (.i2l, 1) := by decide +kernel
theorem dX5_quantile_8 : decode cX5_quantile 8 = .ok (.lconst 0, 1) := by decide +kernel
theorem dX5_quantile_9 : decode cX5_quantile 9 = .ok (.ldc2_w 257, 3) := by decide +kernel
theorem dX5_quantile_12 : decode cX5_quantile 12 = .ok (.invokestatic 115, 3) := by decide +kernel
theorem dX5_quantile_15 : decode cX5_quantile 15 = .ok (.invokestatic 74, 3) := by decide +kernel
theorem dX5_quantile_18 : decode cX5_quantile 18 = .ok (.aload_n 0, 1) := by decide +kernel
theorem dX5_quantile_19 : decode cX5_quantile 19 = .ok (.aload_n 3, 1) := by decide +kernel
theorem dX5_quantile_20 : decode cX5_quantile 20 = .ok (.invokevirtual 228, 3) := by decide +kernel
theorem dX5_quantile_23 : decode cX5_quantile 23 = .ok (.astore 4, 2) := by decide +kernel
theorem dX5_quantile_25 : decode cX5_quantile 25 = .ok (.aload 4, 2) := by decide +kernel
theorem dX5_quantile_27 : decode cX5_quantile 27 = .ok (.invokevirtual 140, 3) := by decide +kernel
theorem dX5_quantile_30 : decode cX5_quantile 30 = .ok (.iload_n 2, 1) := by decide +kernel
theorem dX5_quantile_31 : decode cX5_quantile 31 = .ok (.imul, 1) := by decide +kernel
theorem dX5_quantile_32 : decode cX5_quantile 32 = .ok (.sipush 1000, 3) := by decide +kernel
theorem dX5_quantile_35 : decode cX5_quantile 35 = .ok (.idiv, 1) := by decide +kernel
theorem dX5_quantile_36 : decode cX5_quantile 36 = .ok (.istore 5, 2) := by decide +kernel
theorem dX5_quantile_38 : decode cX5_quantile 38 = .ok (.aload 4, 2) := by decide +kernel
theorem dX5_quantile_40 : decode cX5_quantile 40 = .ok (.iload 5, 2) := by decide +kernel
theorem dX5_quantile_42 : decode cX5_quantile 42 = .ok (.aload 4, 2) := by decide +kernel
theorem dX5_quantile_44 : decode cX5_quantile 44 = .ok (.invokevirtual 140, 3) := by decide +kernel
theorem dX5_quantile_47 : decode cX5_quantile 47 = .ok (.iconst 1, 1) := by decide +kernel
theorem dX5_quantile_48 : decode cX5_quantile 48 = .ok (.isub, 1) := by decide +kernel
theorem dX5_quantile_49 : decode cX5_quantile 49 = .ok (.invokestatic 259, 3) := by decide +kernel
theorem dX5_quantile_52 : decode cX5_quantile 52 = .ok (.invokevirtual 264, 3) := by decide +kernel
theorem dX5_quantile_55 : decode cX5_quantile 55 = .ok (.ireturn, 1) := by decide +kernel
theorem dX5_resampled_0 : decode cX5_resampled 0 = .ok (.aload_n 0, 1) := by decide +kernel
theorem dX5_resampled_1 : decode cX5_resampled 1 = .ok (.iload_n 1, 1) := by decide +kernel
theorem dX5_resampled_2 : decode cX5_resampled 2 = .ok (.invokevirtual 66, 3) := by decide +kernel
theorem dX5_resampled_5 : decode cX5_resampled 5 = .ok (.astore 4, 2) := by decide +kernel
theorem dX5_resampled_7 : decode cX5_resampled 7 = .ok (.iload_n 3, 1) := by decide +kernel
theorem dX5_resampled_8 : decode cX5_resampled 8 = .ok (.i2l, 1) := by decide +kernel
theorem dX5_resampled_9 : decode cX5_resampled 9 = .ok (.lconst 1, 1) := by decide +kernel
theorem dX5_resampled_10 : decode cX5_resampled 10 = .ok (.ldc2_w 257, 3) := by decide +kernel
theorem dX5_resampled_13 : decode cX5_resampled 13 = .ok (.invokestatic 115, 3) := by decide +kernel
theorem dX5_resampled_16 : decode cX5_resampled 16 = .ok (.invokestatic 74, 3) := by decide +kernel
theorem dX5_resampled_19 : decode cX5_resampled 19 = .ok (.aload_n 0, 1) := by decide +kernel
theorem dX5_resampled_20 : decode cX5_resampled 20 = .ok (.aload 4, 2) := by decide +kernel
theorem dX5_resampled_22 : decode cX5_resampled 22 = .ok (.invokevirtual 228, 3) := by decide +kernel
theorem dX5_resampled_25 : decode cX5_resampled 25 = .ok (.astore 5, 2) := by decide +kernel
theorem dX5_resampled_27 : decode cX5_resampled 27 = .ok (.iconst 1, 1) := by decide +kernel
theorem dX5_resampled_28 : decode cX5_resampled 28 = .ok (.aload 5, 2) := by decide +kernel
theorem dX5_resampled_30 : decode cX5_resampled 30 = .ok (.invokevirtual 140, 3) := by decide +kernel
theorem dX5_resampled_33 : decode cX5_resampled 33 = .ok (.invokestatic 267, 3) := by decide +kernel
theorem dX5_resampled_36 : decode cX5_resampled 36 = .ok (.istore 6, 2) := by decide +kernel
theorem dX5_resampled_38 : decode cX5_resampled 38 = .ok (.iload_n 2, 1) := by decide +kernel
theorem dX5_resampled_39 : decode cX5_resampled 39 = .ok (.istore 7, 2) := by decide +kernel
theorem dX5_resampled_41 : decode cX5_resampled 41 = .ok (.dconst 0, 1) := by decide +kernel
theorem dX5_resampled_42 : decode cX5_resampled 42 = .ok (.dstore 8, 2) := by decide +kernel
theorem dX5_resampled_44 : decode cX5_resampled 44 = .ok (.iconst 0, 1) := by decide +kernel
theorem dX5_resampled_45 : decode cX5_resampled 45 = .ok (.istore 10, 2) := by decide +kernel
theorem dX5_resampled_47 : decode cX5_resampled 47 = .ok (.iload 10, 2) := by decide +kernel
theorem dX5_resampled_49 : decode cX5_resampled 49 = .ok (.iload_n 3, 1) := by decide +kernel
theorem dX5_resampled_50 : decode cX5_resampled 50 = .ok (.if_icmp .ge 36, 3) := by decide +kernel
theorem dX5_resampled_53 : decode cX5_resampled 53 = .ok (.iload 7, 2) := by decide +kernel
theorem dX5_resampled_55 : decode cX5_resampled 55 = .ok (.invokestatic 118, 3) := by decide +kernel
theorem dX5_resampled_58 : decode cX5_resampled 58 = .ok (.istore 7, 2) := by decide +kernel
theorem dX5_resampled_60 : decode cX5_resampled 60 = .ok (.dload 8, 2) := by decide +kernel
theorem dX5_resampled_62 : decode cX5_resampled 62 = .ok (.aload 5, 2) := by decide +kernel
theorem dX5_resampled_64 : decode cX5_resampled 64 = .ok (.iload 7, 2) := by decide +kernel
theorem dX5_resampled_66 : decode cX5_resampled 66 = .ok (.bipush 8, 2) := by decide +kernel
theorem dX5_resampled_68 : decode cX5_resampled 68 = .ok (.iushr, 1) := by decide +kernel
theorem dX5_resampled_69 : decode cX5_resampled 69 = .ok (.iload 6, 2) := by decide +kernel
theorem dX5_resampled_71 : decode cX5_resampled 71 = .ok (.irem, 1) := by decide +kernel
theorem dX5_resampled_72 : decode cX5_resampled 72 = .ok (.iconst 4, 1) := by decide +kernel
theorem dX5_resampled_73 : decode cX5_resampled 73 = .ok (.invokevirtual 223, 3) := by decide +kernel
theorem dX5_resampled_76 : decode cX5_resampled 76 = .ok (.i2d, 1) := by decide +kernel
theorem dX5_resampled_77 : decode cX5_resampled 77 = .ok (.dadd, 1) := by decide +kernel
theorem dX5_resampled_78 : decode cX5_resampled 78 = .ok (.dstore 8, 2) := by decide +kernel
theorem dX5_resampled_80 : decode cX5_resampled 80 = .ok (.iinc 10 1, 3) := by decide +kernel
theorem dX5_resampled_83 : decode cX5_resampled 83 = .ok (.goto (-36), 3) := by decide +kernel
theorem dX5_resampled_86 : decode cX5_resampled 86 = .ok (.dload 8, 2) := by decide +kernel
theorem dX5_resampled_88 : decode cX5_resampled 88 = .ok (.iload_n 3, 1) := by decide +kernel
theorem dX5_resampled_89 : decode cX5_resampled 89 = .ok (.i2d, 1) := by decide +kernel
theorem dX5_resampled_90 : decode cX5_resampled 90 = .ok (.ddiv, 1) := by decide +kernel
theorem dX5_resampled_91 : decode cX5_resampled 91 = .ok (.dreturn, 1) := by decide +kernel
theorem dX5_distance_0 : decode cX5_distance 0 = .ok (.aload_n 0, 1) := by decide +kernel
theorem dX5_distance_1 : decode cX5_distance 1 = .ok (.iload_n 1, 1) := by decide +kernel
theorem dX5_distance_2 : decode cX5_distance 2 = .ok (.iload_n 2, 1) := by decide +kernel
theorem dX5_distance_3 : decode cX5_distance 3 = .ok (.invokevirtual 270, 3) := by decide +kernel
theorem dX5_distance_6 : decode cX5_distance 6 = .ok (.aload_n 0, 1) := by decide +kernel
theorem dX5_distance_7 : decode cX5_distance 7 = .ok (.getfield 33, 3) := by decide +kernel
theorem dX5_distance_10 : decode cX5_distance 10 = .ok (.invokestatic 273, 3) := by decide +kernel
theorem dX5_distance_13 : decode cX5_distance 13 = .ok (.aload_n 0, 1) := by decide +kernel
theorem dX5_distance_14 : decode cX5_distance 14 = .ok (.getfield 37, 3) := by decide +kernel
theorem dX5_distance_17 : decode cX5_distance 17 = .ok (.invokestatic 273, 3) := by decide +kernel
theorem dX5_distance_20 : decode cX5_distance 20 = .ok (.aload_n 0, 1) := by decide +kernel
theorem dX5_distance_21 : decode cX5_distance 21 = .ok (.aload_n 0, 1) := by decide +kernel
theorem dX5_distance_22 : decode cX5_distance 22 = .ok (.getfield 33, 3) := by decide +kernel
theorem dX5_distance_25 : decode cX5_distance 25 = .ok (.invokevirtual 277, 3) := by decide +kernel
theorem dX5_distance_28 : decode cX5_distance 28 = .ok (.fstore_n 3, 1) := by decide +kernel
theorem dX5_distance_29 : decode cX5_distance 29 = .ok (.aload_n 0, 1) := by decide +kernel
theorem dX5_distance_30 : decode cX5_distance 30 = .ok (.aload_n 0, 1) := by decide +kernel
theorem dX5_distance_31 : decode cX5_distance 31 = .ok (.getfield 37, 3) := by decide +kernel
theorem dX5_distance_34 : decode cX5_distance 34 = .ok (.invokevirtual 277, 3) := by decide +kernel
theorem dX5_distance_37 : decode cX5_distance 37 = .ok (.fstore 4, 2) := by decide +kernel
theorem dX5_distance_39 : decode cX5_distance 39 = .ok (.fload_n 3, 1) := by decide +kernel
theorem dX5_distance_40 : decode cX5_distance 40 = .ok (.fload 4, 2) := by decide +kernel
theorem dX5_distance_42 : decode cX5_distance 42 = .ok (.fcmp .l, 1) := by decide +kernel
theorem dX5_distance_43 : decode cX5_distance 43 = .ok (.ifCond .lt 7, 3) := by decide +kernel
theorem dX5_distance_46 : decode cX5_distance 46 = .ok (.fload_n 3, 1) := by decide +kernel
theorem dX5_distance_47 : decode cX5_distance 47 = .ok (.goto 5, 3) := by decide +kernel
theorem dX5_distance_50 : decode cX5_distance 50 = .ok (.fload 4, 2) := by decide +kernel
theorem dX5_distance_52 : decode cX5_distance 52 = .ok (.freturn, 1) := by decide +kernel
theorem dX5_common_0 : decode cX5_common 0 = .ok (.aload_n 0, 1) := by decide +kernel
theorem dX5_common_1 : decode cX5_common 1 = .ok (.iload_n 1, 1) := by decide +kernel
theorem dX5_common_2 : decode cX5_common 2 = .ok (.iload_n 2, 1) := by decide +kernel
theorem dX5_common_3 : decode cX5_common 3 = .ok (.invokevirtual 270, 3) := by decide +kernel
theorem dX5_common_6 : decode cX5_common 6 = .ok (.iconst 0, 1) := by decide +kernel
theorem dX5_common_7 : decode cX5_common 7 = .ok (.istore_n 3, 1) := by decide +kernel
theorem dX5_common_8 : decode cX5_common 8 = .ok (.iconst 0, 1) := by decide +kernel
theorem dX5_common_9 : decode cX5_common 9 = .ok (.istore 4, 2) := by decide +kernel
theorem dX5_common_11 : decode cX5_common 11 = .ok (.iload 4, 2) := by decide +kernel
theorem dX5_common_13 : decode cX5_common 13 = .ok (.aload_n 0, 1) := by decide +kernel
theorem dX5_common_14 : decode cX5_common 14 = .ok (.getfield 33, 3) := by decide +kernel
theorem dX5_common_17 : decode cX5_common 17 = .ok (.invokevirtual 140, 3) := by decide +kernel
theorem dX5_common_20 : decode cX5_common 20 = .ok (.if_icmp .ge 32, 3) := by decide +kernel
theorem dX5_common_23 : decode cX5_common 23 = .ok (.aload_n 0, 1) := by decide +kernel
theorem dX5_common_24 : decode cX5_common 24 = .ok (.getfield 37, 3) := by decide +kernel
theorem dX5_common_27 : decode cX5_common 27 = .ok (.aload_n 0, 1) := by decide +kernel
theorem dX5_common_28 : decode cX5_common 28 = .ok (.getfield 33, 3) := by decide +kernel
theorem dX5_common_31 : decode cX5_common 31 = .ok (.iload 4, 2) := by decide +kernel
theorem dX5_common_33 : decode cX5_common 33 = .ok (.iconst 0, 1) := by decide +kernel
theorem dX5_common_34 : decode cX5_common 34 = .ok (.invokevirtual 223, 3) := by decide +kernel
theorem dX5_common_37 : decode cX5_common 37 = .ok (.invokevirtual 281, 3) := by decide +kernel
theorem dX5_common_40 : decode cX5_common 40 = .ok (.ifCond .eq 6, 3) := by decide +kernel
theorem dX5_common_43 : decode cX5_common 43 = .ok (.iinc 3 1, 3) := by decide +kernel
theorem dX5_common_46 : decode cX5_common 46 = .ok (.iinc 4 1, 3) := by decide +kernel
theorem dX5_common_49 : decode cX5_common 49 = .ok (.goto (-38), 3) := by decide +kernel
theorem dX5_common_52 : decode cX5_common 52 = .ok (.iload_n 3, 1) := by decide +kernel
theorem dX5_common_53 : decode cX5_common 53 = .ok (.ireturn, 1) := by decide +kernel
theorem dX5_feed_0 : decode cX5_feed 0 = .ok (.aload_n 0, 1) := by decide +kernel
theorem dX5_feed_1 : decode cX5_feed 1 = .ok (.getfield 45, 3) := by decide +kernel
theorem dX5_feed_4 : decode cX5_feed 4 = .ok (.invokevirtual 284, 3) := by decide +kernel
theorem dX5_feed_7 : decode cX5_feed 7 = .ok (.ifCond .eq 14, 3) := by decide +kernel
theorem dX5_feed_10 : decode cX5_feed 10 = .ok (.new 287, 3) := by decide +kernel
theorem dX5_feed_13 : decode cX5_feed 13 = .ok (.dup, 1) := by decide +kernel
theorem dX5_feed_14 : decode cX5_feed 14 = .ok (.ldc_w 289, 3) := by decide +kernel
theorem dX5_feed_17 : decode cX5_feed 17 = .ok (.invokespecial 291, 3) := by decide +kernel
theorem dX5_feed_20 : decode cX5_feed 20 = .ok (.athrow, 1) := by decide +kernel
theorem dX5_feed_21 : decode cX5_feed 21 = .ok (.aload_n 0, 1) := by decide +kernel
theorem dX5_feed_22 : decode cX5_feed 22 = .ok (.getfield 45, 3) := by decide +kernel
theorem dX5_feed_25 : decode cX5_feed 25 = .ok (.iload_n 1, 1) := by decide +kernel
theorem dX5_feed_26 : decode cX5_feed 26 = .ok (.invokevirtual 292, 3) := by decide +kernel
theorem dX5_feed_29 : decode cX5_feed 29 = .ok (.aload_n 0, 1) := by decide +kernel
theorem dX5_feed_30 : decode cX5_feed 30 = .ok (.getfield 45, 3) := by decide +kernel
theorem dX5_feed_33 : decode cX5_feed 33 = .ok (.invokevirtual 296, 3) := by decide +kernel
theorem dX5_feed_36 : decode cX5_feed 36 = .ok (.ireturn, 1) := by decide +kernel
theorem dX5_read_0 : decode cX5_read 0 = .ok (.aload_n 0, 1) := by decide +kernel
theorem dX5_read_1 : decode cX5_read 1 = .ok (.iload_n 1, 1) := by decide +kernel
theorem dX5_read_2 : decode cX5_read 2 = .ok (.invokevirtual 66, 3) := by decide +kernel
theorem dX5_read_5 : decode cX5_read 5 = .ok (.astore_n 2, 1) := by decide +kernel
theorem dX5_read_6 : decode cX5_read 6 = .ok (.aload_n 0, 1) := by decide +kernel
theorem dX5_read_7 : decode cX5_read 7 = .ok (.getfield 55, 3) := by decide +kernel
theorem dX5_read_10 : decode cX5_read 10 = .ok (.aload_n 0, 1) := by decide +kernel
theorem dX5_read_11 : decode cX5_read 11 = .ok (.getfield 45, 3) := by decide +kernel
theorem dX5_read_14 : decode cX5_read 14 = .ok (.invokevirtual 299, 3) := by decide +kernel
theorem dX5_read_17 : decode cX5_read 17 = .ok (.istore_n 3, 1) := by decide +kernel
theorem dX5_read_18 : decode cX5_read 18 = .ok (.aload_n 0, 1) := by decide +kernel
theorem dX5_read_19 : decode cX5_read 19 = .ok (.getfield 45, 3) := by decide +kernel
theorem dX5_read_22 : decode cX5_read 22 = .ok (.invokevirtual 303, 3) := by decide +kernel
theorem dX5_read_25 : decode cX5_read 25 = .ok (.iload_n 3, 1) := by decide +kernel
theorem dX5_read_26 : decode cX5_read 26 = .ok (.ifCond .lt 8, 3) := by decide +kernel
theorem dX5_read_29 : decode cX5_read 29 = .ok (.bipush (-100), 2) := by decide +kernel
theorem dX5_read_31 : decode cX5_read 31 = .ok (.iload_n 3, 1) := by decide +kernel
theorem dX5_read_32 : decode cX5_read 32 = .ok (.isub, 1) := by decide +kernel
theorem dX5_read_33 : decode cX5_read 33 = .ok (.ireturn, 1) := by decide +kernel
theorem dX5_read_34 : decode cX5_read 34 = .ok (.aload_n 0, 1) := by decide +kernel
theorem dX5_read_35 : decode cX5_read 35 = .ok (.getfield 55, 3) := by decide +kernel
theorem dX5_read_38 : decode cX5_read 38 = .ok (.invokevirtual 306, 3) := by decide +kernel
theorem dX5_read_41 : decode cX5_read 41 = .ok (.invokestatic 74, 3) := by decide +kernel
theorem dX5_read_44 : decode cX5_read 44 = .ok (.aload_n 0, 1) := by decide +kernel
theorem dX5_read_45 : decode cX5_read 45 = .ok (.getfield 55, 3) := by decide +kernel
theorem dX5_read_48 : decode cX5_read 48 = .ok (.invokevirtual 309, 3) := by decide +kernel
theorem dX5_read_51 : decode cX5_read 51 = .ok (.ifCond .ne 14, 3) := by decide +kernel
theorem dX5_read_54 : decode cX5_read 54 = .ok (.new 287, 3) := by decide +kernel
theorem dX5_read_57 : decode cX5_read 57 = .ok (.dup, 1) := by decide +kernel
theorem dX5_read_58 : decode cX5_read 58 = .ok (.ldc_w 312, 3) := by decide +kernel
theorem dX5_read_61 : decode cX5_read 61 = .ok (.invokespecial 291, 3) := by decide +kernel
theorem dX5_read_64 : decode cX5_read 64 = .ok (.athrow, 1) := by decide +kernel
theorem dX5_read_65 : decode cX5_read 65 = .ok (.aload_n 0, 1) := by decide +kernel
theorem dX5_read_66 : decode cX5_read 66 = .ok (.getfield 22, 3) := by decide +kernel
theorem dX5_read_69 : decode cX5_read 69 = .ok (.iload_n 1, 1) := by decide +kernel
theorem dX5_read_70 : decode cX5_read 70 = .ok (.aload_n 2, 1) := by decide +kernel
theorem dX5_read_71 : decode cX5_read 71 = .ok (.aload_n 0, 1) := by decide +kernel
theorem dX5_read_72 : decode cX5_read 72 = .ok (.getfield 82, 3) := by decide +kernel
theorem dX5_read_75 : decode cX5_read 75 = .ok (.invokevirtual 86, 3) := by decide +kernel
theorem dX5_read_78 : decode cX5_read 78 = .ok (.aload_n 0, 1) := by decide +kernel
theorem dX5_read_79 : decode cX5_read 79 = .ok (.getfield 55, 3) := by decide +kernel
theorem dX5_read_82 : decode cX5_read 82 = .ok (.aload_n 2, 1) := by decide +kernel
theorem dX5_read_83 : decode cX5_read 83 = .ok (.invokevirtual 314, 3) := by decide +kernel
theorem dX5_read_86 : decode cX5_read 86 = .ok (.aload_n 0, 1) := by decide +kernel
theorem dX5_read_87 : decode cX5_read 87 = .ok (.aload_n 0, 1) := by decide +kernel
theorem dX5_read_88 : decode cX5_read 88 = .ok (.getfield 82, 3) := by decide +kernel
theorem dX5_read_91 : decode cX5_read 91 = .ok (.aload_n 2, 1) := by decide +kernel
theorem dX5_read_92 : decode cX5_read 92 = .ok (.invokevirtual 317, 3) := by decide +kernel
theorem dX5_read_95 : decode cX5_read 95 = .ok (.iconst 1, 1) := by decide +kernel
theorem dX5_read_96 : decode cX5_read 96 = .ok (.iadd, 1) := by decide +kernel
theorem dX5_read_97 : decode cX5_read 97 = .ok (.invokestatic 267, 3) := by decide +kernel
theorem dX5_read_100 : decode cX5_read 100 = .ok (.putfield 82, 3) := by decide +kernel
theorem dX5_read_103 : decode cX5_read 103 = .ok (.aload_n 2, 1) := by decide +kernel
theorem dX5_read_104 : decode cX5_read 104 = .ok (.invokevirtual 78, 3) := by decide +kernel
theorem dX5_read_107 : decode cX5_read 107 = .ok (.ireturn, 1) := by decide +kernel
theorem dX5_write_0 : decode cX5_write 0 = .ok (.aload_n 0, 1) := by decide +kernel
theorem dX5_write_1 : decode cX5_write 1 = .ok (.iload_n 1, 1) := by decide +kernel
theorem dX5_write_2 : decode cX5_write 2 = .ok (.invokevirtual 66, 3) := by decide +kernel
theorem dX5_write_5 : decode cX5_write 5 = .ok (.astore_n 2, 1) := by decide +kernel
theorem dX5_write_6 : decode cX5_write 6 = .ok (.aload_n 2, 1) := by decide +kernel
theorem dX5_write_7 : decode cX5_write 7 = .ok (.invokestatic 101, 3) := by decide +kernel
theorem dX5_write_10 : decode cX5_write 10 = .ok (.aload_n 0, 1) := by decide +kernel
theorem dX5_write_11 : decode cX5_write 11 = .ok (.getfield 49, 3) := by decide +kernel
theorem dX5_write_14 : decode cX5_write 14 = .ok (.invokevirtual 303, 3) := by decide +kernel
theorem dX5_write_17 : decode cX5_write 17 = .ok (.aload_n 2, 1) := by decide +kernel
theorem dX5_write_18 : decode cX5_write 18 = .ok (.aload_n 0, 1) := by decide +kernel
theorem dX5_write_19 : decode cX5_write 19 = .ok (.getfield 49, 3) := by decide +kernel
theorem dX5_write_22 : decode cX5_write 22 = .ok (.invokevirtual 320, 3) := by decide +kernel
theorem dX5_write_25 : decode cX5_write 25 = .ok (.aload_n 0, 1) := by decide +kernel
theorem dX5_write_26 : decode cX5_write 26 = .ok (.getfield 49, 3) := by decide +kernel
theorem dX5_write_29 : decode cX5_write 29 = .ok (.invokevirtual 296, 3) := by decide +kernel
theorem dX5_write_32 : decode cX5_write 32 = .ok (.ireturn, 1) := by decide +kernel
theorem dX5_text_0 : decode cX5_text 0 = .ok (.iload_n 1, 1) := by decide +kernel
theorem dX5_text_1 : decode cX5_text 1 = .ok (.ifCond .lt 14, 3) := by decide +kernel
theorem dX5_text_4 : decode cX5_text 4 = .ok (.iload_n 1, 1) := by decide +kernel
theorem dX5_text_5 : decode cX5_text 5 = .ok (.aload_n 0, 1) := by decide +kernel
theorem dX5_text_6 : decode cX5_text 6 = .ok (.getfield 49, 3) := by decide +kernel
theorem dX5_text_9 : decode cX5_text 9 = .ok (.invokevirtual 296, 3) := by decide +kernel
theorem dX5_text_12 : decode cX5_text 12 = .ok (.if_icmp .lt 14, 3) := by decide +kernel
theorem dX5_text_15 : decode cX5_text 15 = .ok (.new 216, 3) := by decide +kernel
theorem dX5_text_18 : decode cX5_text 18 = .ok (.dup, 1) := by decide +kernel
theorem dX5_text_19 : decode cX5_text 19 = .ok (.ldc_w 324, 3) := by decide +kernel
theorem dX5_text_22 : decode cX5_text 22 = .ok (.invokespecial 220, 3) := by decide +kernel
theorem dX5_text_25 : decode cX5_text 25 = .ok (.athrow, 1) := by decide +kernel
theorem dX5_text_26 : decode cX5_text 26 = .ok (.aload_n 0, 1) := by decide +kernel
theorem dX5_text_27 : decode cX5_text 27 = .ok (.getfield 49, 3) := by decide +kernel
theorem dX5_text_30 : decode cX5_text 30 = .ok (.iload_n 1, 1) := by decide +kernel
theorem dX5_text_31 : decode cX5_text 31 = .ok (.invokevirtual 326, 3) := by decide +kernel
theorem dX5_text_34 : decode cX5_text 34 = .ok (.ireturn, 1) := by decide +kernel
theorem dX5_undo_0 : decode cX5_undo 0 = .ok (.aload_n 0, 1) := by decide +kernel
theorem dX5_undo_1 : decode cX5_undo 1 = .ok (.getfield 22, 3) := by decide +kernel
theorem dX5_undo_4 : decode cX5_undo 4 = .ok (.invokevirtual 330, 3) := by decide +kernel
theorem dX5_undo_7 : decode cX5_undo 7 = .ok (.ifCond .ne 14, 3) := by decide +kernel
theorem dX5_undo_10 : decode cX5_undo 10 = .ok (.new 287, 3) := by decide +kernel
theorem dX5_undo_13 : decode cX5_undo 13 = .ok (.dup, 1) := by decide +kernel
theorem dX5_undo_14 : decode cX5_undo 14 = .ok (.ldc_w 331, 3) := by decide +kernel
theorem dX5_undo_17 : decode cX5_undo 17 = .ok (.invokespecial 291, 3) := by decide +kernel
theorem dX5_undo_20 : decode cX5_undo 20 = .ok (.athrow, 1) := by decide +kernel
theorem dX5_undo_21 : decode cX5_undo 21 = .ok (.aload_n 0, 1) := by decide +kernel
theorem dX5_undo_22 : decode cX5_undo 22 = .ok (.getfield 22, 3) := by decide +kernel
theorem dX5_undo_25 : decode cX5_undo 25 = .ok (.invokevirtual 333, 3) := by decide +kernel
theorem dX5_undo_28 : decode cX5_undo 28 = .ok (.aload_n 0, 1) := by decide +kernel
theorem dX5_undo_29 : decode cX5_undo 29 = .ok (.aload_n 0, 1) := by decide +kernel
theorem dX5_undo_30 : decode cX5_undo 30 = .ok (.getfield 22, 3) := by decide +kernel
theorem dX5_undo_33 : decode cX5_undo 33 = .ok (.invokevirtual 336, 3) := by decide +kernel
theorem dX5_undo_36 : decode cX5_undo 36 = .ok (.invokevirtual 66, 3) := by decide +kernel
theorem dX5_undo_39 : decode cX5_undo 39 = .ok (.aload_n 0, 1) := by decide +kernel
theorem dX5_undo_40 : decode cX5_undo 40 = .ok (.getfield 22, 3) := by decide +kernel
theorem dX5_undo_43 : decode cX5_undo 43 = .ok (.invokevirtual 339, 3) := by decide +kernel
theorem dX5_undo_46 : decode cX5_undo 46 = .ok (.invokevirtual 198, 3) := by decide +kernel
theorem dX5_undo_49 : decode cX5_undo 49 = .ok (.aload_n 0, 1) := by decide +kernel
theorem dX5_undo_50 : decode cX5_undo 50 = .ok (.aload_n 0, 1) := by decide +kernel
theorem dX5_undo_51 : decode cX5_undo 51 = .ok (.getfield 22, 3) := by decide +kernel
theorem dX5_undo_54 : decode cX5_undo 54 = .ok (.invokevirtual 343, 3) := by decide +kernel
theorem dX5_undo_57 : decode cX5_undo 57 = .ok (.putfield 82, 3) := by decide +kernel
theorem dX5_undo_60 : decode cX5_undo 60 = .ok (.aload_n 0, 1) := by decide +kernel
theorem dX5_undo_61 : decode cX5_undo 61 = .ok (.getfield 22, 3) := by decide +kernel
theorem dX5_undo_64 : decode cX5_undo 64 = .ok (.invokevirtual 330, 3) := by decide +kernel
theorem dX5_undo_67 : decode cX5_undo 67 = .ok (.ireturn, 1) := by decide +kernel
theorem dX5_save_0 : decode cX5_save 0 = .ok (.iconst 0, 1) := by decide +kernel
theorem dX5_save_1 : decode cX5_save 1 = .ok (.istore_n 1, 1) := by decide +kernel
theorem dX5_save_2 : decode cX5_save 2 = .ok (.iload_n 1, 1) := by decide +kernel
theorem dX5_save_3 : decode cX5_save 3 = .ok (.iconst 4, 1) := by decide +kernel
theorem dX5_save_4 : decode cX5_save 4 = .ok (.if_icmp .ge 24, 3) := by decide +kernel
theorem dX5_save_7 : decode cX5_save 7 = .ok (.aload_n 0, 1) := by decide +kernel
theorem dX5_save_8 : decode cX5_save 8 = .ok (.getfield 15, 3) := by decide +kernel
theorem dX5_save_11 : decode cX5_save 11 = .ok (.iload_n 1, 1) := by decide +kernel
theorem dX5_save_12 : decode cX5_save 12 = .ok (.aaload, 1) := by decide +kernel
theorem dX5_save_13 : decode cX5_save 13 = .ok (.aload_n 0, 1) := by decide +kernel
theorem dX5_save_14 : decode cX5_save 14 = .ok (.getfield 11, 3) := by decide +kernel
theorem dX5_save_17 : decode cX5_save 17 = .ok (.iload_n 1, 1) := by decide +kernel
theorem dX5_save_18 : decode cX5_save 18 = .ok (.aaload, 1) := by decide +kernel
theorem dX5_save_19 : decode cX5_save 19 = .ok (.invokevirtual 198, 3) := by decide +kernel
theorem dX5_save_22 : decode cX5_save 22 = .ok (.iinc 1 1, 3) := by decide +kernel
theorem dX5_save_25 : decode cX5_save 25 = .ok (.goto (-23), 3) := by decide +kernel
theorem dX5_save_28 : decode cX5_save 28 = .ok (.aload_n 0, 1) := by decide +kernel
theorem dX5_save_29 : decode cX5_save 29 = .ok (.aload_n 0, 1) := by decide +kernel
theorem dX5_save_30 : decode cX5_save 30 = .ok (.getfield 82, 3) := by decide +kernel
theorem dX5_save_33 : decode cX5_save 33 = .ok (.putfield 345, 3) := by decide +kernel
theorem dX5_save_36 : decode cX5_save 36 = .ok (.aload_n 0, 1) := by decide +kernel
theorem dX5_save_37 : decode cX5_save 37 = .ok (.iconst 1, 1) := by decide +kernel
theorem dX5_save_38 : decode cX5_save 38 = .ok (.putfield 348, 3) := by decide +kernel
theorem dX5_save_41 : decode cX5_save 41 = .ok (.aload_n 0, 1) := by decide +kernel
theorem dX5_save_42 : decode cX5_save 42 = .ok (.invokevirtual 352, 3) := by decide +kernel
theorem dX5_save_45 : decode cX5_save 45 = .ok (.ireturn, 1) := by decide +kernel
theorem dX5_restore_0 : decode cX5_restore 0 = .ok (.aload_n 0, 1) := by decide +kernel
theorem dX5_restore_1 : decode cX5_restore 1 = .ok (.getfield 348, 3) := by decide +kernel
theorem dX5_restore_4 : decode cX5_restore 4 = .ok (.ifCond .ne 14, 3) := by decide +kernel
theorem dX5_restore_7 : decode cX5_restore 7 = .ok (.new 287, 3) := by decide +kernel
theorem dX5_restore_10 : decode cX5_restore 10 = .ok (.dup, 1) := by decide +kernel
theorem dX5_restore_11 : decode cX5_restore 11 = .ok (.ldc_w 355, 3) := by decide +kernel
theorem dX5_restore_14 : decode cX5_restore 14 = .ok (.invokespecial 291, 3) := by decide +kernel
theorem dX5_restore_17 : decode cX5_restore 17 = .ok (.athrow, 1) := by decide +kernel
theorem dX5_restore_18 : decode cX5_restore 18 = .ok (.iconst 0, 1) := by decide +kernel
theorem dX5_restore_19 : decode cX5_restore 19 = .ok (.istore_n 1, 1) := by decide +kernel
theorem dX5_restore_20 : decode cX5_restore 20 = .ok (.iload_n 1, 1) := by decide +kernel
theorem dX5_restore_21 : decode cX5_restore 21 = .ok (.iconst 4, 1) := by decide +kernel
theorem dX5_restore_22 : decode cX5_restore 22 = .ok (.if_icmp .ge 24, 3) := by decide +kernel
theorem dX5_restore_25 : decode cX5_restore 25 = .ok (.aload_n 0, 1) := by decide +kernel
theorem dX5_restore_26 : decode cX5_restore 26 = .ok (.getfield 11, 3) := by decide +kernel
theorem dX5_restore_29 : decode cX5_restore 29 = .ok (.iload_n 1, 1) := by decide +kernel
theorem dX5_restore_30 : decode cX5_restore 30 = .ok (.aaload, 1) := by decide +kernel
theorem dX5_restore_31 : decode cX5_restore 31 = .ok (.aload_n 0, 1) := by decide +kernel
theorem dX5_restore_32 : decode cX5_restore 32 = .ok (.getfield 15, 3) := by decide +kernel
theorem dX5_restore_35 : decode cX5_restore 35 = .ok (.iload_n 1, 1) := by decide +kernel
theorem dX5_restore_36 : decode cX5_restore 36 = .ok (.aaload, 1) := by decide +kernel
theorem dX5_restore_37 : decode cX5_restore 37 = .ok (.invokevirtual 198, 3) := by decide +kernel
theorem dX5_restore_40 : decode cX5_restore 40 = .ok (.iinc 1 1, 3) := by decide +kernel
theorem dX5_restore_43 : decode cX5_restore 43 = .ok (.goto (-23), 3) := by decide +kernel
theorem dX5_restore_46 : decode cX5_restore 46 = .ok (.aload_n 0, 1) := by decide +kernel
theorem dX5_restore_47 : decode cX5_restore 47 = .ok (.aload_n 0, 1) := by decide +kernel
theorem dX5_restore_48 : decode cX5_restore 48 = .ok (.getfield 345, 3) := by decide +kernel
theorem dX5_restore_51 : decode cX5_restore 51 = .ok (.putfield 82, 3) := by decide +kernel
theorem dX5_restore_54 : decode cX5_restore 54 = .ok (.aload_n 0, 1) := by decide +kernel
theorem dX5_restore_55 : decode cX5_restore 55 = .ok (.getfield 22, 3) := by decide +kernel
theorem dX5_restore_58 : decode cX5_restore 58 = .ok (.invokevirtual 357, 3) := by decide +kernel
theorem dX5_restore_61 : decode cX5_restore 61 = .ok (.aload_n 0, 1) := by decide +kernel
theorem dX5_restore_62 : decode cX5_restore 62 = .ok (.invokevirtual 352, 3) := by decide +kernel
theorem dX5_restore_65 : decode cX5_restore 65 = .ok (.ireturn, 1) := by decide +kernel
theorem dX5_slotAt_0 : decode cX5_slotAt 0 = .ok (.iload_n 1, 1) := by decide +kernel
theorem dX5_slotAt_1 : decode cX5_slotAt 1 = .ok (.ifCond .lt 8, 3) := by decide +kernel
theorem dX5_slotAt_4 : decode cX5_slotAt 4 = .ok (.iload_n 1, 1) := by decide +kernel
theorem dX5_slotAt_5 : decode cX5_slotAt 5 = .ok (.iconst 4, 1) := by decide +kernel
theorem dX5_slotAt_6 : decode cX5_slotAt 6 = .ok (.if_icmp .lt 14, 3) := by decide +kernel
theorem dX5_slotAt_9 : decode cX5_slotAt 9 = .ok (.new 216, 3) := by decide +kernel
theorem dX5_slotAt_12 : decode cX5_slotAt 12 = .ok (.dup, 1) := by decide +kernel
theorem dX5_slotAt_13 : decode cX5_slotAt 13 = .ok (.ldc_w 360, 3) := by decide +kernel
theorem dX5_slotAt_16 : decode cX5_slotAt 16 = .ok (.invokespecial 220, 3) := by decide +kernel
theorem dX5_slotAt_19 : decode cX5_slotAt 19 = .ok (.athrow, 1) := by decide +kernel
theorem dX5_slotAt_20 : decode cX5_slotAt 20 = .ok (.aload_n 0, 1) := by decide +kernel
theorem dX5_slotAt_21 : decode cX5_slotAt 21 = .ok (.getfield 11, 3) := by decide +kernel
theorem dX5_slotAt_24 : decode cX5_slotAt 24 = .ok (.iload_n 1, 1) := by decide +kernel
theorem dX5_slotAt_25 : decode cX5_slotAt 25 = .ok (.aaload, 1) := by decide +kernel
theorem dX5_slotAt_26 : decode cX5_slotAt 26 = .ok (.areturn, 1) := by decide +kernel
theorem dX5_needStratum_0 : decode cX5_needStratum 0 = .ok (.iload_n 0, 1) := by decide +kernel
theorem dX5_needStratum_1 : decode cX5_needStratum 1 = .ok (.i2l, 1) := by decide +kernel
theorem dX5_needStratum_2 : decode cX5_needStratum 2 = .ok (.lconst 0, 1) := by decide +kernel
theorem dX5_needStratum_3 : decode cX5_needStratum 3 = .ok (.ldc2_w 362, 3) := by decide +kernel
theorem dX5_needStratum_6 : decode cX5_needStratum 6 = .ok (.invokestatic 115, 3) := by decide +kernel
theorem dX5_needStratum_9 : decode cX5_needStratum 9 = .ok (.ifCond .ne 14, 3) := by decide +kernel
theorem dX5_needStratum_12 : decode cX5_needStratum 12 = .ok (.new 216, 3) := by decide +kernel
theorem dX5_needStratum_15 : decode cX5_needStratum 15 = .ok (.dup, 1) := by decide +kernel
theorem dX5_needStratum_16 : decode cX5_needStratum 16 = .ok (.ldc_w 364, 3) := by decide +kernel
theorem dX5_needStratum_19 : decode cX5_needStratum 19 = .ok (.invokespecial 220, 3) := by decide +kernel
theorem dX5_needStratum_22 : decode cX5_needStratum 22 = .ok (.athrow, 1) := by decide +kernel
theorem dX5_needStratum_23 : decode cX5_needStratum 23 = .ok (.return_, 1) := by decide +kernel
theorem dX5_needItem_0 : decode cX5_needItem 0 = .ok (.aload_n 0, 1) := by decide +kernel
theorem dX5_needItem_1 : decode cX5_needItem 1 = .ok (.invokevirtual 213, 3) := by decide +kernel
theorem dX5_needItem_4 : decode cX5_needItem 4 = .ok (.ifCond .eq 30, 3) := by decide +kernel
theorem dX5_needItem_7 : decode cX5_needItem 7 = .ok (.iload_n 1, 1) := by decide +kernel
theorem dX5_needItem_8 : decode cX5_needItem 8 = .ok (.i2l, 1) := by decide +kernel
theorem dX5_needItem_9 : decode cX5_needItem 9 = .ok (.lconst 0, 1) := by decide +kernel
theorem dX5_needItem_10 : decode cX5_needItem 10 = .ok (.aload_n 0, 1) := by decide +kernel
theorem dX5_needItem_11 : decode cX5_needItem 11 = .ok (.invokevirtual 78, 3) := by decide +kernel
theorem dX5_needItem_14 : decode cX5_needItem 14 = .ok (.iconst 1, 1) := by decide +kernel
theorem dX5_needItem_15 : decode cX5_needItem 15 = .ok (.isub, 1) := by decide +kernel
theorem dX5_needItem_16 : decode cX5_needItem 16 = .ok (.i2l, 1) := by decide +kernel
theorem dX5_needItem_17 : decode cX5_needItem 17 = .ok (.invokestatic 115, 3) := by decide +kernel
theorem dX5_needItem_20 : decode cX5_needItem 20 = .ok (.ifCond .ne 14, 3) := by decide +kernel
theorem dX5_needItem_23 : decode cX5_needItem 23 = .ok (.new 216, 3) := by decide +kernel
theorem dX5_needItem_26 : decode cX5_needItem 26 = .ok (.dup, 1) := by decide +kernel
theorem dX5_needItem_27 : decode cX5_needItem 27 = .ok (.ldc_w 366, 3) := by decide +kernel
theorem dX5_needItem_30 : decode cX5_needItem 30 = .ok (.invokespecial 220, 3) := by decide +kernel
theorem dX5_needItem_33 : decode cX5_needItem 33 = .ok (.athrow, 1) := by decide +kernel
theorem dX5_needItem_34 : decode cX5_needItem 34 = .ok (.return_, 1) := by decide +kernel
theorem dX5_needRange_0 : decode cX5_needRange 0 = .ok (.iload_n 0, 1) := by decide +kernel
theorem dX5_needRange_1 : decode cX5_needRange 1 = .ok (.ifCond .ne 14, 3) := by decide +kernel
theorem dX5_needRange_4 : decode cX5_needRange 4 = .ok (.new 368, 3) := by decide +kernel
theorem dX5_needRange_7 : decode cX5_needRange 7 = .ok (.dup, 1) := by decide +kernel
theorem dX5_needRange_8 : decode cX5_needRange 8 = .ok (.ldc_w 370, 3) := by decide +kernel
theorem dX5_needRange_11 : decode cX5_needRange 11 = .ok (.invokespecial 372, 3) := by decide +kernel
theorem dX5_needRange_14 : decode cX5_needRange 14 = .ok (.athrow, 1) := by decide +kernel
theorem dX5_needRange_15 : decode cX5_needRange 15 = .ok (.return_, 1) := by decide +kernel
theorem dX5_needFilled_0 : decode cX5_needFilled 0 = .ok (.aload_n 0, 1) := by decide +kernel
theorem dX5_needFilled_1 : decode cX5_needFilled 1 = .ok (.invokevirtual 213, 3) := by decide +kernel
theorem dX5_needFilled_4 : decode cX5_needFilled 4 = .ok (.ifCond .ne 14, 3) := by decide +kernel
theorem dX5_needFilled_7 : decode cX5_needFilled 7 = .ok (.new 287, 3) := by decide +kernel
theorem dX5_needFilled_10 : decode cX5_needFilled 10 = .ok (.dup, 1) := by decide +kernel
theorem dX5_needFilled_11 : decode cX5_needFilled 11 = .ok (.ldc_w 373, 3) := by decide +kernel
theorem dX5_needFilled_14 : decode cX5_needFilled 14 = .ok (.invokespecial 291, 3) := by decide +kernel
theorem dX5_needFilled_17 : decode cX5_needFilled 17 = .ok (.athrow, 1) := by decide +kernel
theorem dX5_needFilled_18 : decode cX5_needFilled 18 = .ok (.return_, 1) := by decide +kernel
theorem dX5_needRoom_0 : decode cX5_needRoom 0 = .ok (.aload_n 0, 1) := by decide +kernel
theorem dX5_needRoom_1 : decode cX5_needRoom 1 = .ok (.iload_n 1, 1) := by decide +kernel
theorem dX5_needRoom_2 : decode cX5_needRoom 2 = .ok (.invokevirtual 188, 3) := by decide +kernel
theorem dX5_needRoom_5 : decode cX5_needRoom 5 = .ok (.ifCond .ne 13, 3) := by decide +kernel
theorem dX5_needRoom_8 : decode cX5_needRoom 8 = .ok (.new 287, 3) := by decide +kernel
theorem dX5_needRoom_11 : decode cX5_needRoom 11 = .ok (.dup, 1) := by decide +kernel
theorem dX5_needRoom_12 : decode cX5_needRoom 12 = .ok (.ldc 192, 2) := by decide +kernel
theorem dX5_needRoom_14 : decode cX5_needRoom 14 = .ok (.invokespecial 291, 3) := by decide +kernel
theorem dX5_needRoom_17 : decode cX5_needRoom 17 = .ok (.athrow, 1) := by decide +kernel
theorem dX5_needRoom_18 : decode cX5_needRoom 18 = .ok (.return_, 1) := by decide +kernel
theorem dX5_needItems_0 : decode cX5_needItems 0 = .ok (.aload_n 0, 1) := by decide +kernel
theorem dX5_needItems_1 : decode cX5_needItems 1 = .ok (.invokevirtual 140, 3) := by decide +kernel
theorem dX5_needItems_4 : decode cX5_needItems 4 = .ok (.ifCond .ne 14, 3) := by decide +kernel
theorem dX5_needItems_7 : decode cX5_needItems 7 = .ok (.new 240, 3) := by decide +kernel
theorem dX5_needItems_10 : decode cX5_needItems 10 = .ok (.dup, 1) := by decide +kernel
theorem dX5_needItems_11 : decode cX5_needItems 11 = .ok (.ldc_w 375, 3) := by decide +kernel
theorem dX5_needItems_14 : decode cX5_needItems 14 = .ok (.invokespecial 244, 3) := by decide +kernel
theorem dX5_needItems_17 : decode cX5_needItems 17 = .ok (.athrow, 1) := by decide +kernel
theorem dX5_needItems_18 : decode cX5_needItems 18 = .ok (.return_, 1) := by decide +kernel
theorem dX5_neededSample_0 : decode cX5_neededSample 0 = .ok (.aload_n 1, 1) := by decide +kernel
theorem dX5_neededSample_1 : decode cX5_neededSample 1 = .ok (.invokestatic 101, 3) := by decide +kernel
theorem dX5_neededSample_4 : decode cX5_neededSample 4 = .ok (.aload_n 0, 1) := by decide +kernel
theorem dX5_neededSample_5 : decode cX5_neededSample 5 = .ok (.aload_n 1, 1) := by decide +kernel
theorem dX5_neededSample_6 : decode cX5_neededSample 6 = .ok (.invokevirtual 136, 3) := by decide +kernel
theorem dX5_neededSample_9 : decode cX5_neededSample 9 = .ok (.astore_n 2, 1) := by decide +kernel
theorem dX5_neededSample_10 : decode cX5_neededSample 10 = .ok (.aload_n 2, 1) := by decide +kernel
theorem dX5_neededSample_11 : decode cX5_neededSample 11 = .ok (.invokestatic 273, 3) := by decide +kernel
theorem dX5_neededSample_14 : decode cX5_neededSample 14 = .ok (.aload_n 2, 1) := by decide +kernel
theorem dX5_neededSample_15 : decode cX5_neededSample 15 = .ok (.areturn, 1) := by decide +kernel
theorem dX5_sampleOf_0 : decode cX5_sampleOf 0 = .ok (.aload_n 0, 1) := by decide +kernel
theorem dX5_sampleOf_1 : decode cX5_sampleOf 1 = .ok (.getfield 33, 3) := by decide +kernel
theorem dX5_sampleOf_4 : decode cX5_sampleOf 4 = .ok (.aload_n 1, 1) := by decide +kernel
theorem dX5_sampleOf_5 : decode cX5_sampleOf 5 = .ok (.invokevirtual 377, 3) := by decide +kernel
theorem dX5_sampleOf_8 : decode cX5_sampleOf 8 = .ok (.aload_n 0, 1) := by decide +kernel
theorem dX5_sampleOf_9 : decode cX5_sampleOf 9 = .ok (.getfield 33, 3) := by decide +kernel
theorem dX5_sampleOf_12 : decode cX5_sampleOf 12 = .ok (.areturn, 1) := by decide +kernel
theorem dX5_findBothSamples_0 : decode cX5_findBothSamples 0 = .ok (.aload_n 0, 1) := by decide +kernel
theorem dX5_findBothSamples_1 : decode cX5_findBothSamples 1 = .ok (.iload_n 1, 1) := by decide +kernel
theorem dX5_findBothSamples_2 : decode cX5_findBothSamples 2 = .ok (.invokevirtual 66, 3) := by decide +kernel
theorem dX5_findBothSamples_5 : decode cX5_findBothSamples 5 = .ok (.astore_n 3, 1) := by decide +kernel
theorem dX5_findBothSamples_6 : decode cX5_findBothSamples 6 = .ok (.aload_n 0, 1) := by decide +kernel
theorem dX5_findBothSamples_7 : decode cX5_findBothSamples 7 = .ok (.iload_n 2, 1) := by decide +kernel
theorem dX5_findBothSamples_8 : decode cX5_findBothSamples 8 = .ok (.invokevirtual 66, 3) := by decide +kernel
theorem dX5_findBothSamples_11 : decode cX5_findBothSamples 11 = .ok (.astore 4, 2) := by decide +kernel
theorem dX5_findBothSamples_13 : decode cX5_findBothSamples 13 = .ok (.aload_n 3, 1) := by decide +kernel
theorem dX5_findBothSamples_14 : decode cX5_findBothSamples 14 = .ok (.invokestatic 101, 3) := by decide +kernel
theorem dX5_findBothSamples_17 : decode cX5_findBothSamples 17 = .ok (.aload 4, 2) := by decide +kernel
theorem dX5_findBothSamples_19 : decode cX5_findBothSamples 19 = .ok (.invokestatic 101, 3) := by decide +kernel
theorem dX5_findBothSamples_22 : decode cX5_findBothSamples 22 = .ok (.aload_n 0, 1) := by decide +kernel
theorem dX5_findBothSamples_23 : decode cX5_findBothSamples 23 = .ok (.getfield 33, 3) := by decide +kernel
theorem dX5_findBothSamples_26 : decode cX5_findBothSamples 26 = .ok (.aload_n 3, 1) := by decide +kernel
theorem dX5_findBothSamples_27 : decode cX5_findBothSamples 27 = .ok (.invokevirtual 377, 3) := by decide +kernel
theorem dX5_findBothSamples_30 : decode cX5_findBothSamples 30 = .ok (.aload_n 0, 1) := by decide +kernel
theorem dX5_findBothSamples_31 : decode cX5_findBothSamples 31 = .ok (.getfield 37, 3) := by decide +kernel
theorem dX5_findBothSamples_34 : decode cX5_findBothSamples 34 = .ok (.aload 4, 2) := by decide +kernel
theorem dX5_findBothSamples_36 : decode cX5_findBothSamples 36 = .ok (.invokevirtual 377, 3) := by decide +kernel
theorem dX5_findBothSamples_39 : decode cX5_findBothSamples 39 = .ok (.return_, 1) := by decide +kernel
theorem dX5_isWithin_0 : decode cX5_isWithin 0 = .ok (.lload_n 0, 1) := by decide +kernel
theorem dX5_isWithin_1 : decode cX5_isWithin 1 = .ok (.lload_n 2, 1) := by decide +kernel
theorem dX5_isWithin_2 : decode cX5_isWithin 2 = .ok (.lcmp, 1) := by decide +kernel
theorem dX5_isWithin_3 : decode cX5_isWithin 3 = .ok (.ifCond .lt 14, 3) := by decide +kernel
theorem dX5_isWithin_6 : decode cX5_isWithin 6 = .ok (.lload_n 0, 1) := by decide +kernel
theorem dX5_isWithin_7 : decode cX5_isWithin 7 = .ok (.lload 4, 2) := by decide +kernel
theorem dX5_isWithin_9 : decode cX5_isWithin 9 = .ok (.lcmp, 1) := by decide +kernel
theorem dX5_isWithin_10 : decode cX5_isWithin 10 = .ok (.ifCond .gt 7, 3) := by decide +kernel
theorem dX5_isWithin_13 : decode cX5_isWithin 13 = .ok (.iconst 1, 1) := by decide +kernel
theorem dX5_isWithin_14 : decode cX5_isWithin 14 = .ok (.goto 4, 3) := by decide +kernel
theorem dX5_isWithin_17 : decode cX5_isWithin 17 = .ok (.iconst 0, 1) := by decide +kernel
theorem dX5_isWithin_18 : decode cX5_isWithin 18 = .ok (.ireturn, 1) := by decide +kernel
theorem dX5_areSettings_0 : decode cX5_areSettings 0 = .ok (.lload_n 0, 1) := by decide +kernel
theorem dX5_areSettings_1 : decode cX5_areSettings 1 = .ok (.lconst 0, 1) := by decide +kernel
theorem dX5_areSettings_2 : decode cX5_areSettings 2 = .ok (.ldc2_w 362, 3) := by decide +kernel
theorem dX5_areSettings_5 : decode cX5_areSettings 5 = .ok (.invokestatic 115, 3) := by decide +kernel
theorem dX5_areSettings_8 : decode cX5_areSettings 8 = .ok (.ifCond .eq 30, 3) := by decide +kernel
theorem dX5_areSettings_11 : decode cX5_areSettings 11 = .ok (.lload_n 2, 1) := by decide +kernel
theorem dX5_areSettings_12 : decode cX5_areSettings 12 = .ok (.lconst 1, 1) := by decide +kernel
theorem dX5_areSettings_13 : decode cX5_areSettings 13 = .ok (.ldc2_w 152, 3) := by decide +kernel
theorem dX5_areSettings_16 : decode cX5_areSettings 16 = .ok (.invokestatic 115, 3) := by decide +kernel
theorem dX5_areSettings_19 : decode cX5_areSettings 19 = .ok (.ifCond .eq 19, 3) := by decide +kernel
theorem dX5_areSettings_22 : decode cX5_areSettings 22 = .ok (.lload 4, 2) := by decide +kernel
theorem dX5_areSettings_24 : decode cX5_areSettings 24 = .ok (.lconst 0, 1) := by decide +kernel
theorem dX5_areSettings_25 : decode cX5_areSettings 25 = .ok (.ldc2_w 380, 3) := by decide +kernel
theorem dX5_areSettings_28 : decode cX5_areSettings 28 = .ok (.invokestatic 115, 3) := by decide +kernel
theorem dX5_areSettings_31 : decode cX5_areSettings 31 = .ok (.ifCond .eq 7, 3) := by decide +kernel
theorem dX5_areSettings_34 : decode cX5_areSettings 34 = .ok (.iconst 1, 1) := by decide +kernel
theorem dX5_areSettings_35 : decode cX5_areSettings 35 = .ok (.goto 4, 3) := by decide +kernel
theorem dX5_areSettings_38 : decode cX5_areSettings 38 = .ok (.iconst 0, 1) := by decide +kernel
theorem dX5_areSettings_39 : decode cX5_areSettings 39 = .ok (.ireturn, 1) := by decide +kernel
theorem dX5_areParts_0 : decode cX5_areParts 0 = .ok (.lload_n 0, 1) := by decide +kernel
theorem dX5_areParts_1 : decode cX5_areParts 1 = .ok (.lconst 0, 1) := by decide +kernel
theorem dX5_areParts_2 : decode cX5_areParts 2 = .ok (.ldc2_w 382, 3) := by decide +kernel
theorem dX5_areParts_5 : decode cX5_areParts 5 = .ok (.invokestatic 115, 3) := by decide +kernel
theorem dX5_areParts_8 : decode cX5_areParts 8 = .ok (.ifCond .eq 44, 3) := by decide +kernel
theorem dX5_areParts_11 : decode cX5_areParts 11 = .ok (.lload_n 2, 1) := by decide +kernel
theorem dX5_areParts_12 : decode cX5_areParts 12 = .ok (.lconst 0, 1) := by decide +kernel
theorem dX5_areParts_13 : decode cX5_areParts 13 = .ok (.ldc2_w 362, 3) := by decide +kernel
theorem dX5_areParts_16 : decode cX5_areParts 16 = .ok (.invokestatic 115, 3) := by decide +kernel
theorem dX5_areParts_19 : decode cX5_areParts 19 = .ok (.ifCond .eq 33, 3) := by decide +kernel
theorem dX5_areParts_22 : decode cX5_areParts 22 = .ok (.lload 4, 2) := by decide +kernel
theorem dX5_areParts_24 : decode cX5_areParts 24 = .ok (.lconst 1, 1) := by decide +kernel
theorem dX5_areParts_25 : decode cX5_areParts 25 = .ok (.ldc2_w 382, 3) := by decide +kernel
theorem dX5_areParts_28 : decode cX5_areParts 28 = .ok (.invokestatic 115, 3) := by decide +kernel
theorem dX5_areParts_31 : decode cX5_areParts 31 = .ok (.ifCond .eq 21, 3) := by decide +kernel
theorem dX5_areParts_34 : decode cX5_areParts 34 = .ok (.lload 6, 2) := by decide +kernel
theorem dX5_areParts_36 : decode cX5_areParts 36 = .ok (.ldc2_w 384, 3) := by decide +kernel
theorem dX5_areParts_39 : decode cX5_areParts 39 = .ok (.ldc2_w 386, 3) := by decide +kernel
theorem dX5_areParts_42 : decode cX5_areParts 42 = .ok (.invokestatic 115, 3) := by decide +kernel
theorem dX5_areParts_45 : decode cX5_areParts 45 = .ok (.ifCond .eq 7, 3) := by decide +kernel
theorem dX5_areParts_48 : decode cX5_areParts 48 = .ok (.iconst 1, 1) := by decide +kernel
theorem dX5_areParts_49 : decode cX5_areParts 49 = .ok (.goto 4, 3) := by decide +kernel
theorem dX5_areParts_52 : decode cX5_areParts 52 = .ok (.iconst 0, 1) := by decide +kernel
theorem dX5_areParts_53 : decode cX5_areParts 53 = .ok (.ireturn, 1) := by decide +kernel
theorem dX5_nextDrawn_0 : decode cX5_nextDrawn 0 = .ok (.iload_n 0, 1) := by decide +kernel
theorem dX5_nextDrawn_1 : decode cX5_nextDrawn 1 = .ok (.ldc_w 388, 3) := by decide +kernel
theorem dX5_nextDrawn_4 : decode cX5_nextDrawn 4 = .ok (.imul, 1) := by decide +kernel
theorem dX5_nextDrawn_5 : decode cX5_nextDrawn 5 = .ok (.sipush 12345, 3) := by decide +kernel
theorem dX5_nextDrawn_8 : decode cX5_nextDrawn 8 = .ok (.iadd, 1) := by decide +kernel
theorem dX5_nextDrawn_9 : decode cX5_nextDrawn 9 = .ok (.ireturn, 1) := by decide +kernel
theorem dX5_mixOf_0 : decode cX5_mixOf 0 = .ok (.iload_n 0, 1) := by decide +kernel
theorem dX5_mixOf_1 : decode cX5_mixOf 1 = .ok (.iload_n 1, 1) := by decide +kernel
theorem dX5_mixOf_2 : decode cX5_mixOf 2 = .ok (.ldc_w 389, 3) := by decide +kernel
theorem dX5_mixOf_5 : decode cX5_mixOf 5 = .ok (.imul, 1) := by decide +kernel
theorem dX5_mixOf_6 : decode cX5_mixOf 6 = .ok (.ixor, 1) := by decide +kernel
theorem dX5_mixOf_7 : decode cX5_mixOf 7 = .ok (.istore_n 2, 1) := by decide +kernel
theorem dX5_mixOf_8 : decode cX5_mixOf 8 = .ok (.iload_n 2, 1) := by decide +kernel
theorem dX5_mixOf_9 : decode cX5_mixOf 9 = .ok (.iload_n 2, 1) := by decide +kernel
theorem dX5_mixOf_10 : decode cX5_mixOf 10 = .ok (.bipush 16, 2) := by decide +kernel
theorem dX5_mixOf_12 : decode cX5_mixOf 12 = .ok (.iushr, 1) := by decide +kernel
theorem dX5_mixOf_13 : decode cX5_mixOf 13 = .ok (.ixor, 1) := by decide +kernel
theorem dX5_mixOf_14 : decode cX5_mixOf 14 = .ok (.istore_n 2, 1) := by decide +kernel
theorem dX5_mixOf_15 : decode cX5_mixOf 15 = .ok (.iload_n 2, 1) := by decide +kernel
theorem dX5_mixOf_16 : decode cX5_mixOf 16 = .ok (.ldc_w 390, 3) := by decide +kernel
theorem dX5_mixOf_19 : decode cX5_mixOf 19 = .ok (.imul, 1) := by decide +kernel
theorem dX5_mixOf_20 : decode cX5_mixOf 20 = .ok (.istore_n 2, 1) := by decide +kernel
theorem dX5_mixOf_21 : decode cX5_mixOf 21 = .ok (.iload_n 2, 1) := by decide +kernel
theorem dX5_mixOf_22 : decode cX5_mixOf 22 = .ok (.iload_n 2, 1) := by decide +kernel
theorem dX5_mixOf_23 : decode cX5_mixOf 23 = .ok (.bipush 13, 2) := by decide +kernel
theorem dX5_mixOf_25 : decode cX5_mixOf 25 = .ok (.iushr, 1) := by decide +kernel
theorem dX5_mixOf_26 : decode cX5_mixOf 26 = .ok (.ixor, 1) := by decide +kernel
theorem dX5_mixOf_27 : decode cX5_mixOf 27 = .ok (.istore_n 2, 1) := by decide +kernel
theorem dX5_mixOf_28 : decode cX5_mixOf 28 = .ok (.iload_n 2, 1) := by decide +kernel
theorem dX5_mixOf_29 : decode cX5_mixOf 29 = .ok (.ldc_w 391, 3) := by decide +kernel
theorem dX5_mixOf_32 : decode cX5_mixOf 32 = .ok (.imul, 1) := by decide +kernel
theorem dX5_mixOf_33 : decode cX5_mixOf 33 = .ok (.istore_n 2, 1) := by decide +kernel
theorem dX5_mixOf_34 : decode cX5_mixOf 34 = .ok (.iload_n 2, 1) := by decide +kernel
theorem dX5_mixOf_35 : decode cX5_mixOf 35 = .ok (.iload_n 2, 1) := by decide +kernel
theorem dX5_mixOf_36 : decode cX5_mixOf 36 = .ok (.bipush 16, 2) := by decide +kernel
theorem dX5_mixOf_38 : decode cX5_mixOf 38 = .ok (.iushr, 1) := by decide +kernel
theorem dX5_mixOf_39 : decode cX5_mixOf 39 = .ok (.ixor, 1) := by decide +kernel
theorem dX5_mixOf_40 : decode cX5_mixOf 40 = .ok (.istore_n 2, 1) := by decide +kernel
theorem dX5_mixOf_41 : decode cX5_mixOf 41 = .ok (.iload_n 2, 1) := by decide +kernel
theorem dX5_mixOf_42 : decode cX5_mixOf 42 = .ok (.ldc_w 392, 3) := by decide +kernel
theorem dX5_mixOf_45 : decode cX5_mixOf 45 = .ok (.iand, 1) := by decide +kernel
theorem dX5_mixOf_46 : decode cX5_mixOf 46 = .ok (.i2l, 1) := by decide +kernel
theorem dX5_mixOf_47 : decode cX5_mixOf 47 = .ok (.lconst 1, 1) := by decide +kernel
theorem dX5_mixOf_48 : decode cX5_mixOf 48 = .ok (.ladd, 1) := by decide +kernel
theorem dX5_mixOf_49 : decode cX5_mixOf 49 = .ok (.lreturn, 1) := by decide +kernel
theorem dX5_rounded_0 : decode cX5_rounded 0 = .ok (.lload_n 2, 1) := by decide +kernel
theorem dX5_rounded_1 : decode cX5_rounded 1 = .ok (.lconst 0, 1) := by decide +kernel
theorem dX5_rounded_2 : decode cX5_rounded 2 = .ok (.lcmp, 1) := by decide +kernel
theorem dX5_rounded_3 : decode cX5_rounded 3 = .ok (.ifCond .gt 5, 3) := by decide +kernel
theorem dX5_rounded_6 : decode cX5_rounded 6 = .ok (.lconst 0, 1) := by decide +kernel
theorem dX5_rounded_7 : decode cX5_rounded 7 = .ok (.lreturn, 1) := by decide +kernel
theorem dX5_rounded_8 : decode cX5_rounded 8 = .ok (.ldc2_w 251, 3) := by decide +kernel
theorem dX5_rounded_11 : decode cX5_rounded 11 = .ok (.lload_n 0, 1) := by decide +kernel
theorem dX5_rounded_12 : decode cX5_rounded 12 = .ok (.lmul, 1) := by decide +kernel
theorem dX5_rounded_13 : decode cX5_rounded 13 = .ok (.lload_n 2, 1) := by decide +kernel
theorem dX5_rounded_14 : decode cX5_rounded 14 = .ok (.ladd, 1) := by decide +kernel
theorem dX5_rounded_15 : decode cX5_rounded 15 = .ok (.ldc2_w 251, 3) := by decide +kernel
theorem dX5_rounded_18 : decode cX5_rounded 18 = .ok (.lload_n 2, 1) := by decide +kernel
theorem dX5_rounded_19 : decode cX5_rounded 19 = .ok (.lmul, 1) := by decide +kernel
theorem dX5_rounded_20 : decode cX5_rounded 20 = .ok (.invokestatic 393, 3) := by decide +kernel
theorem dX5_rounded_23 : decode cX5_rounded 23 = .ok (.lreturn, 1) := by decide +kernel
theorem dX5_filledSlots_0 : decode cX5_filledSlots 0 = .ok (.iconst 0, 1) := by decide +kernel
theorem dX5_filledSlots_1 : decode cX5_filledSlots 1 = .ok (.istore_n 1, 1) := by decide +kernel
theorem dX5_filledSlots_2 : decode cX5_filledSlots 2 = .ok (.iconst 0, 1) := by decide +kernel
theorem dX5_filledSlots_3 : decode cX5_filledSlots 3 = .ok (.istore_n 2, 1) := by decide +kernel
theorem dX5_filledSlots_4 : decode cX5_filledSlots 4 = .ok (.iload_n 2, 1) := by decide +kernel
theorem dX5_filledSlots_5 : decode cX5_filledSlots 5 = .ok (.iconst 4, 1) := by decide +kernel
theorem dX5_filledSlots_6 : decode cX5_filledSlots 6 = .ok (.if_icmp .ge 24, 3) := by decide +kernel
theorem dX5_filledSlots_9 : decode cX5_filledSlots 9 = .ok (.aload_n 0, 1) := by decide +kernel
theorem dX5_filledSlots_10 : decode cX5_filledSlots 10 = .ok (.getfield 11, 3) := by decide +kernel
theorem dX5_filledSlots_13 : decode cX5_filledSlots 13 = .ok (.iload_n 2, 1) := by decide +kernel
theorem dX5_filledSlots_14 : decode cX5_filledSlots 14 = .ok (.aaload, 1) := by decide +kernel
theorem dX5_filledSlots_15 : decode cX5_filledSlots 15 = .ok (.invokevirtual 213, 3) := by decide +kernel
theorem dX5_filledSlots_18 : decode cX5_filledSlots 18 = .ok (.ifCond .eq 6, 3) := by decide +kernel
theorem dX5_filledSlots_21 : decode cX5_filledSlots 21 = .ok (.iinc 1 1, 3) := by decide +kernel
theorem dX5_filledSlots_24 : decode cX5_filledSlots 24 = .ok (.iinc 2 1, 3) := by decide +kernel
theorem dX5_filledSlots_27 : decode cX5_filledSlots 27 = .ok (.goto (-23), 3) := by decide +kernel
theorem dX5_filledSlots_30 : decode cX5_filledSlots 30 = .ok (.iload_n 1, 1) := by decide +kernel
theorem dX5_filledSlots_31 : decode cX5_filledSlots 31 = .ok (.ireturn, 1) := by decide +kernel
theorem dX5_findAmounts_0 : decode cX5_findAmounts 0 = .ok (.iconst 0, 1) := by decide +kernel
theorem dX5_findAmounts_1 : decode cX5_findAmounts 1 = .ok (.istore_n 3, 1) := by decide +kernel
theorem dX5_findAmounts_2 : decode cX5_findAmounts 2 = .ok (.iconst 0, 1) := by decide +kernel
theorem dX5_findAmounts_3 : decode cX5_findAmounts 3 = .ok (.istore 4, 2) := by decide +kernel
theorem dX5_findAmounts_5 : decode cX5_findAmounts 5 = .ok (.iload 4, 2) := by decide +kernel
theorem dX5_findAmounts_7 : decode cX5_findAmounts 7 = .ok (.iconst 4, 1) := by decide +kernel
theorem dX5_findAmounts_8 : decode cX5_findAmounts 8 = .ok (.if_icmp .ge 82, 3) := by decide +kernel
theorem dX5_findAmounts_11 : decode cX5_findAmounts 11 = .ok (.aload_n 0, 1) := by decide +kernel
theorem dX5_findAmounts_12 : decode cX5_findAmounts 12 = .ok (.getfield 59, 3) := by decide +kernel
theorem dX5_findAmounts_15 : decode cX5_findAmounts 15 = .ok (.iload 4, 2) := by decide +kernel
theorem dX5_findAmounts_17 : decode cX5_findAmounts 17 = .ok (.iconst 0, 1) := by decide +kernel
theorem dX5_findAmounts_18 : decode cX5_findAmounts 18 = .ok (.iastore, 1) := by decide +kernel
theorem dX5_findAmounts_19 : decode cX5_findAmounts 19 = .ok (.iconst 0, 1) := by decide +kernel
theorem dX5_findAmounts_20 : decode cX5_findAmounts 20 = .ok (.istore 5, 2) := by decide +kernel
theorem dX5_findAmounts_22 : decode cX5_findAmounts 22 = .ok (.iload 5, 2) := by decide +kernel
theorem dX5_findAmounts_24 : decode cX5_findAmounts 24 = .ok (.aload_n 1, 1) := by decide +kernel
theorem dX5_findAmounts_25 : decode cX5_findAmounts 25 = .ok (.invokevirtual 78, 3) := by decide +kernel
theorem dX5_findAmounts_28 : decode cX5_findAmounts 28 = .ok (.if_icmp .ge 46, 3) := by decide +kernel
theorem dX5_findAmounts_31 : decode cX5_findAmounts 31 = .ok (.aload_n 1, 1) := by decide +kernel
theorem dX5_findAmounts_32 : decode cX5_findAmounts 32 = .ok (.iload 5, 2) := by decide +kernel
theorem dX5_findAmounts_34 : decode cX5_findAmounts 34 = .ok (.iconst 2, 1) := by decide +kernel
theorem dX5_findAmounts_35 : decode cX5_findAmounts 35 = .ok (.invokevirtual 206, 3) := by decide +kernel
theorem dX5_findAmounts_38 : decode cX5_findAmounts 38 = .ok (.iload 4, 2) := by decide +kernel
theorem dX5_findAmounts_40 : decode cX5_findAmounts 40 = .ok (.if_icmp .ne 28, 3) := by decide +kernel
theorem dX5_findAmounts_43 : decode cX5_findAmounts 43 = .ok (.aload_n 0, 1) := by decide +kernel
theorem dX5_findAmounts_44 : decode cX5_findAmounts 44 = .ok (.getfield 59, 3) := by decide +kernel
theorem dX5_findAmounts_47 : decode cX5_findAmounts 47 = .ok (.iload 4, 2) := by decide +kernel
theorem dX5_findAmounts_49 : decode cX5_findAmounts 49 = .ok (.dup2, 1) := by decide +kernel
theorem dX5_findAmounts_50 : decode cX5_findAmounts 50 = .ok (.iaload, 1) := by decide +kernel
theorem dX5_findAmounts_51 : decode cX5_findAmounts 51 = .ok (.iload_n 2, 1) := by decide +kernel
theorem dX5_findAmounts_52 : decode cX5_findAmounts 52 = .ok (.ifCond .eq 13, 3) := by decide +kernel
theorem dX5_findAmounts_55 : decode cX5_findAmounts 55 = .ok (.aload_n 1, 1) := by decide +kernel
theorem dX5_findAmounts_56 : decode cX5_findAmounts 56 = .ok (.iload 5, 2) := by decide +kernel
theorem dX5_findAmounts_58 : decode cX5_findAmounts 58 = .ok (.iconst 3, 1) := by decide +kernel
theorem dX5_findAmounts_59 : decode cX5_findAmounts 59 = .ok (.invokevirtual 206, 3) := by decide +kernel
theorem dX5_findAmounts_62 : decode cX5_findAmounts 62 = .ok (.goto 4, 3) := by decide +kernel
theorem dX5_findAmounts_65 : decode cX5_findAmounts 65 = .ok (.iconst 1, 1) := by decide +kernel
theorem dX5_findAmounts_66 : decode cX5_findAmounts 66 = .ok (.iadd, 1) := by decide +kernel
theorem dX5_findAmounts_67 : decode cX5_findAmounts 67 = .ok (.iastore, 1) := by decide +kernel
theorem dX5_findAmounts_68 : decode cX5_findAmounts 68 = .ok (.iinc 5 1, 3) := by decide +kernel
theorem dX5_findAmounts_71 : decode cX5_findAmounts 71 = .ok (.goto (-49), 3) := by decide +kernel
theorem dX5_findAmounts_74 : decode cX5_findAmounts 74 = .ok (.iload_n 3, 1) := by decide +kernel
theorem dX5_findAmounts_75 : decode cX5_findAmounts 75 = .ok (.aload_n 0, 1) := by decide +kernel
theorem dX5_findAmounts_76 : decode cX5_findAmounts 76 = .ok (.getfield 59, 3) := by decide +kernel
theorem dX5_findAmounts_79 : decode cX5_findAmounts 79 = .ok (.iload 4, 2) := by decide +kernel
theorem dX5_findAmounts_81 : decode cX5_findAmounts 81 = .ok (.iaload, 1) := by decide +kernel
theorem dX5_findAmounts_82 : decode cX5_findAmounts 82 = .ok (.iadd, 1) := by decide +kernel
theorem dX5_findAmounts_83 : decode cX5_findAmounts 83 = .ok (.istore_n 3, 1) := by decide +kernel
theorem dX5_findAmounts_84 : decode cX5_findAmounts 84 = .ok (.iinc 4 1, 3) := by decide +kernel
theorem dX5_findAmounts_87 : decode cX5_findAmounts 87 = .ok (.goto (-82), 3) := by decide +kernel
theorem dX5_findAmounts_90 : decode cX5_findAmounts 90 = .ok (.iload_n 3, 1) := by decide +kernel
theorem dX5_findAmounts_91 : decode cX5_findAmounts 91 = .ok (.ireturn, 1) := by decide +kernel
theorem dX5_takeGreatestRemainder_0 : decode cX5_takeGreatestRemainder 0 = .ok (.iconst 0, 1) := by decide +kernel
theorem dX5_takeGreatestRemainder_1 : decode cX5_takeGreatestRemainder 1 = .ok (.istore_n 1, 1) := by decide +kernel
theorem dX5_takeGreatestRemainder_2 : decode cX5_takeGreatestRemainder 2 = .ok (.iconst 1, 1) := by decide +kernel
theorem dX5_takeGreatestRemainder_3 : decode cX5_takeGreatestRemainder 3 = .ok (.istore_n 2, 1) := by decide +kernel
theorem dX5_takeGreatestRemainder_4 : decode cX5_takeGreatestRemainder 4 = .ok (.iload_n 2, 1) := by decide +kernel
theorem dX5_takeGreatestRemainder_5 : decode cX5_takeGreatestRemainder 5 = .ok (.iconst 4, 1) := by decide +kernel
theorem dX5_takeGreatestRemainder_6 : decode cX5_takeGreatestRemainder 6 = .ok (.if_icmp .ge 26, 3) := by decide +kernel
theorem dX5_takeGreatestRemainder_9 : decode cX5_takeGreatestRemainder 9 = .ok (.aload_n 0, 1) := by decide +kernel
theorem dX5_takeGreatestRemainder_10 : decode cX5_takeGreatestRemainder 10 = .ok (.getfield 63, 3) := by decide +kernel
theorem dX5_takeGreatestRemainder_13 : decode cX5_takeGreatestRemainder 13 = .ok (.iload_n 2, 1) := by decide +kernel
theorem dX5_takeGreatestRemainder_14 : decode cX5_takeGreatestRemainder 14 = .ok (.iaload, 1) := by decide +kernel
theorem dX5_takeGreatestRemainder_15 : decode cX5_takeGreatestRemainder 15 = .ok (.aload_n 0, 1) := by decide +kernel
theorem dX5_takeGreatestRemainder_16 : decode cX5_takeGreatestRemainder 16 = .ok (.getfield 63, 3) := by decide +kernel
theorem dX5_takeGreatestRemainder_19 : decode cX5_takeGreatestRemainder 19 = .ok (.iload_n 1, 1) := by decide +kernel
theorem dX5_takeGreatestRemainder_20 : decode cX5_takeGreatestRemainder 20 = .ok (.iaload, 1) := by decide +kernel
theorem dX5_takeGreatestRemainder_21 : decode cX5_takeGreatestRemainder 21 = .ok (.if_icmp .le 5, 3) := by decide +kernel
theorem dX5_takeGreatestRemainder_24 : decode cX5_takeGreatestRemainder 24 = .ok (.iload_n 2, 1) := by decide +kernel
theorem dX5_takeGreatestRemainder_25 : decode cX5_takeGreatestRemainder 25 = .ok (.istore_n 1, 1) := by decide +kernel
theorem dX5_takeGreatestRemainder_26 : decode cX5_takeGreatestRemainder 26 = .ok (.iinc 2 1, 3) := by decide +kernel
theorem dX5_takeGreatestRemainder_29 : decode cX5_takeGreatestRemainder 29 = .ok (.goto (-25), 3) := by decide +kernel
theorem dX5_takeGreatestRemainder_32 : decode cX5_takeGreatestRemainder 32 = .ok (.aload_n 0, 1) := by decide +kernel
theorem dX5_takeGreatestRemainder_33 : decode cX5_takeGreatestRemainder 33 = .ok (.getfield 63, 3) := by decide +kernel
theorem dX5_takeGreatestRemainder_36 : decode cX5_takeGreatestRemainder 36 = .ok (.iload_n 1, 1) := by decide +kernel
theorem dX5_takeGreatestRemainder_37 : decode cX5_takeGreatestRemainder 37 = .ok (.iconst (-1), 1) := by decide +kernel
theorem dX5_takeGreatestRemainder_38 : decode cX5_takeGreatestRemainder 38 = .ok (.iastore, 1) := by decide +kernel
theorem dX5_takeGreatestRemainder_39 : decode cX5_takeGreatestRemainder 39 = .ok (.iload_n 1, 1) := by decide +kernel
theorem dX5_takeGreatestRemainder_40 : decode cX5_takeGreatestRemainder 40 = .ok (.ireturn, 1) := by decide +kernel
theorem dX5_greatestGap_0 : decode cX5_greatestGap 0 = .ok (.fconst 0, 1) := by decide +kernel
theorem dX5_greatestGap_1 : decode cX5_greatestGap 1 = .ok (.fstore_n 2, 1) := by decide +kernel
theorem dX5_greatestGap_2 : decode cX5_greatestGap 2 = .ok (.iconst 0, 1) := by decide +kernel
theorem dX5_greatestGap_3 : decode cX5_greatestGap 3 = .ok (.istore_n 3, 1) := by decide +kernel
theorem dX5_greatestGap_4 : decode cX5_greatestGap 4 = .ok (.iload_n 3, 1) := by decide +kernel
theorem dX5_greatestGap_5 : decode cX5_greatestGap 5 = .ok (.aload_n 1, 1) := by decide +kernel
theorem dX5_greatestGap_6 : decode cX5_greatestGap 6 = .ok (.invokevirtual 140, 3) := by decide +kernel
theorem dX5_greatestGap_9 : decode cX5_greatestGap 9 = .ok (.if_icmp .ge 69, 3) := by decide +kernel
theorem dX5_greatestGap_12 : decode cX5_greatestGap 12 = .ok (.aload_n 1, 1) := by decide +kernel
theorem dX5_greatestGap_13 : decode cX5_greatestGap 13 = .ok (.iload_n 3, 1) := by decide +kernel
theorem dX5_greatestGap_14 : decode cX5_greatestGap 14 = .ok (.iconst 4, 1) := by decide +kernel
theorem dX5_greatestGap_15 : decode cX5_greatestGap 15 = .ok (.invokevirtual 223, 3) := by decide +kernel
theorem dX5_greatestGap_18 : decode cX5_greatestGap 18 = .ok (.istore 4, 2) := by decide +kernel
theorem dX5_greatestGap_20 : decode cX5_greatestGap 20 = .ok (.aload_n 0, 1) := by decide +kernel
theorem dX5_greatestGap_21 : decode cX5_greatestGap 21 = .ok (.getfield 33, 3) := by decide +kernel
theorem dX5_greatestGap_24 : decode cX5_greatestGap 24 = .ok (.iload 4, 2) := by decide +kernel
theorem dX5_greatestGap_26 : decode cX5_greatestGap 26 = .ok (.invokevirtual 397, 3) := by decide +kernel
theorem dX5_greatestGap_29 : decode cX5_greatestGap 29 = .ok (.aload_n 0, 1) := by decide +kernel
theorem dX5_greatestGap_30 : decode cX5_greatestGap 30 = .ok (.getfield 37, 3) := by decide +kernel
theorem dX5_greatestGap_33 : decode cX5_greatestGap 33 = .ok (.iload 4, 2) := by decide +kernel
theorem dX5_greatestGap_35 : decode cX5_greatestGap 35 = .ok (.invokevirtual 397, 3) := by decide +kernel
theorem dX5_greatestGap_38 : decode cX5_greatestGap 38 = .ok (.fsub, 1) := by decide +kernel
theorem dX5_greatestGap_39 : decode cX5_greatestGap 39 = .ok (.fstore 5, 2) := by decide +kernel
theorem dX5_greatestGap_41 : decode cX5_greatestGap 41 = .ok (.fload 5, 2) := by decide +kernel
theorem dX5_greatestGap_43 : decode cX5_greatestGap 43 = .ok (.fconst 0, 1) := by decide +kernel
theorem dX5_greatestGap_44 : decode cX5_greatestGap 44 = .ok (.fcmp .g, 1) := by decide +kernel
theorem dX5_greatestGap_45 : decode cX5_greatestGap 45 = .ok (.ifCond .ge 9, 3) := by decide +kernel
theorem dX5_greatestGap_48 : decode cX5_greatestGap 48 = .ok (.fload 5, 2) := by decide +kernel
theorem dX5_greatestGap_50 : decode cX5_greatestGap 50 = .ok (.fneg, 1) := by decide +kernel
theorem dX5_greatestGap_51 : decode cX5_greatestGap 51 = .ok (.goto 5, 3) := by decide +kernel
theorem dX5_greatestGap_54 : decode cX5_greatestGap 54 = .ok (.fload 5, 2) := by decide +kernel
theorem dX5_greatestGap_56 : decode cX5_greatestGap 56 = .ok (.fstore 6, 2) := by decide +kernel
theorem dX5_greatestGap_58 : decode cX5_greatestGap 58 = .ok (.fload 6, 2) := by decide +kernel
theorem dX5_greatestGap_60 : decode cX5_greatestGap 60 = .ok (.fload_n 2, 1) := by decide +kernel
theorem dX5_greatestGap_61 : decode cX5_greatestGap 61 = .ok (.fcmp .l, 1) := by decide +kernel
theorem dX5_greatestGap_62 : decode cX5_greatestGap 62 = .ok (.ifCond .le 8, 3) := by decide +kernel
theorem dX5_greatestGap_65 : decode cX5_greatestGap 65 = .ok (.fload 6, 2) := by decide +kernel
theorem dX5_greatestGap_67 : decode cX5_greatestGap 67 = .ok (.goto 4, 3) := by decide +kernel
theorem dX5_greatestGap_70 : decode cX5_greatestGap 70 = .ok (.fload_n 2, 1) := by decide +kernel
theorem dX5_greatestGap_71 : decode cX5_greatestGap 71 = .ok (.fstore_n 2, 1) := by decide +kernel
theorem dX5_greatestGap_72 : decode cX5_greatestGap 72 = .ok (.iinc 3 1, 3) := by decide +kernel
theorem dX5_greatestGap_75 : decode cX5_greatestGap 75 = .ok (.goto (-71), 3) := by decide +kernel
theorem dX5_greatestGap_78 : decode cX5_greatestGap 78 = .ok (.fload_n 2, 1) := by decide +kernel
theorem dX5_greatestGap_79 : decode cX5_greatestGap 79 = .ok (.freturn, 1) := by decide +kernel
