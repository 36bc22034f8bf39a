theorem dX0_init_0 : decode cX0_init 0 = .ok (.aload_n 0, 1) := by decide +kernel
theorem dX0_init_1 : decode cX0_init 1 = .ok (.invokespecial 3, 3) := by decide +kernel
theorem dX0_init_4 : decode cX0_init 4 = .ok (.aload_n 0, 1) := by decide +kernel
theorem dX0_init_5 : decode cX0_init 5 = .ok (.bipush 28, 2) := by decide +kernel
theorem dX0_init_7 : decode cX0_init 7 = .ok (.newarray .int, 2) := by decide +kernel
theorem dX0_init_9 : decode cX0_init 9 = .ok (.putfield 9, 3) := by decide +kernel
theorem dX0_init_12 : decode cX0_init 12 = .ok (.aload_n 0, 1) := by decide +kernel
theorem dX0_init_13 : decode cX0_init 13 = .ok (.bipush 28, 2) := by decide +kernel
theorem dX0_init_15 : decode cX0_init 15 = .ok (.newarray .int, 2) := by decide +kernel
theorem dX0_init_17 : decode cX0_init 17 = .ok (.putfield 15, 3) := by decide +kernel
theorem dX0_init_20 : decode cX0_init 20 = .ok (.return_, 1) := by decide +kernel
theorem dX0_gainedOf_0 : decode cX0_gainedOf 0 = .ok (.iload_n 1, 1) := by decide +kernel
theorem dX0_gainedOf_1 : decode cX0_gainedOf 1 = .ok (.invokestatic 18, 3) := by decide +kernel
theorem dX0_gainedOf_4 : decode cX0_gainedOf 4 = .ok (.ifCond .eq 12, 3) := by decide +kernel
theorem dX0_gainedOf_7 : decode cX0_gainedOf 7 = .ok (.aload_n 0, 1) := by decide +kernel
theorem dX0_gainedOf_8 : decode cX0_gainedOf 8 = .ok (.getfield 9, 3) := by decide +kernel
theorem dX0_gainedOf_11 : decode cX0_gainedOf 11 = .ok (.iload_n 1, 1) := by decide +kernel
theorem dX0_gainedOf_12 : decode cX0_gainedOf 12 = .ok (.iaload, 1) := by decide +kernel
theorem dX0_gainedOf_13 : decode cX0_gainedOf 13 = .ok (.goto 4, 3) := by decide +kernel
theorem dX0_gainedOf_16 : decode cX0_gainedOf 16 = .ok (.iconst (-1), 1) := by decide +kernel
theorem dX0_gainedOf_17 : decode cX0_gainedOf 17 = .ok (.ireturn, 1) := by decide +kernel
theorem dX0_lostOf_0 : decode cX0_lostOf 0 = .ok (.iload_n 1, 1) := by decide +kernel
theorem dX0_lostOf_1 : decode cX0_lostOf 1 = .ok (.invokestatic 18, 3) := by decide +kernel
theorem dX0_lostOf_4 : decode cX0_lostOf 4 = .ok (.ifCond .eq 12, 3) := by decide +kernel
theorem dX0_lostOf_7 : decode cX0_lostOf 7 = .ok (.aload_n 0, 1) := by decide +kernel
theorem dX0_lostOf_8 : decode cX0_lostOf 8 = .ok (.getfield 15, 3) := by decide +kernel
theorem dX0_lostOf_11 : decode cX0_lostOf 11 = .ok (.iload_n 1, 1) := by decide +kernel
theorem dX0_lostOf_12 : decode cX0_lostOf 12 = .ok (.iaload, 1) := by decide +kernel
theorem dX0_lostOf_13 : decode cX0_lostOf 13 = .ok (.goto 4, 3) := by decide +kernel
theorem dX0_lostOf_16 : decode cX0_lostOf 16 = .ok (.iconst (-1), 1) := by decide +kernel
theorem dX0_lostOf_17 : decode cX0_lostOf 17 = .ok (.ireturn, 1) := by decide +kernel
theorem dX0_forgetAll_0 : decode cX0_forgetAll 0 = .ok (.iconst 0, 1) := by decide +kernel
theorem dX0_forgetAll_1 : decode cX0_forgetAll 1 = .ok (.istore_n 1, 1) := by decide +kernel
theorem dX0_forgetAll_2 : decode cX0_forgetAll 2 = .ok (.iload_n 1, 1) := by decide +kernel
theorem dX0_forgetAll_3 : decode cX0_forgetAll 3 = .ok (.bipush 28, 2) := by decide +kernel
theorem dX0_forgetAll_5 : decode cX0_forgetAll 5 = .ok (.if_icmp .ge 23, 3) := by decide +kernel
theorem dX0_forgetAll_8 : decode cX0_forgetAll 8 = .ok (.aload_n 0, 1) := by decide +kernel
theorem dX0_forgetAll_9 : decode cX0_forgetAll 9 = .ok (.getfield 9, 3) := by decide +kernel
theorem dX0_forgetAll_12 : decode cX0_forgetAll 12 = .ok (.iload_n 1, 1) := by decide +kernel
theorem dX0_forgetAll_13 : decode cX0_forgetAll 13 = .ok (.iconst 0, 1) := by decide +kernel
theorem dX0_forgetAll_14 : decode cX0_forgetAll 14 = .ok (.iastore, 1) := by decide +kernel
theorem dX0_forgetAll_15 : decode cX0_forgetAll 15 = .ok (.aload_n 0, 1) := by decide +kernel
theorem dX0_forgetAll_16 : decode cX0_forgetAll 16 = .ok (.getfield 15, 3) := by decide +kernel
theorem dX0_forgetAll_19 : decode cX0_forgetAll 19 = .ok (.iload_n 1, 1) := by decide +kernel
theorem dX0_forgetAll_20 : decode cX0_forgetAll 20 = .ok (.iconst 0, 1) := by decide +kernel
theorem dX0_forgetAll_21 : decode cX0_forgetAll 21 = .ok (.iastore, 1) := by decide +kernel
theorem dX0_forgetAll_22 : decode cX0_forgetAll 22 = .ok (.iinc 1 1, 3) := by decide +kernel
theorem dX0_forgetAll_25 : decode cX0_forgetAll 25 = .ok (.goto (-23), 3) := by decide +kernel
theorem dX0_forgetAll_28 : decode cX0_forgetAll 28 = .ok (.return_, 1) := by decide +kernel
theorem dX0_grow_0 : decode cX0_grow 0 = .ok (.iconst 0, 1) := by decide +kernel
theorem dX0_grow_1 : decode cX0_grow 1 = .ok (.istore_n 2, 1) := by decide +kernel
theorem dX0_grow_2 : decode cX0_grow 2 = .ok (.iload_n 2, 1) := by decide +kernel
theorem dX0_grow_3 : decode cX0_grow 3 = .ok (.bipush 28, 2) := by decide +kernel
theorem dX0_grow_5 : decode cX0_grow 5 = .ok (.if_icmp .ge 48, 3) := by decide +kernel
theorem dX0_grow_8 : decode cX0_grow 8 = .ok (.iload_n 2, 1) := by decide +kernel
theorem dX0_grow_9 : decode cX0_grow 9 = .ok (.aload_n 1, 1) := by decide +kernel
theorem dX0_grow_10 : decode cX0_grow 10 = .ok (.arraylength, 1) := by decide +kernel
theorem dX0_grow_11 : decode cX0_grow 11 = .ok (.if_icmp .ge 42, 3) := by decide +kernel
theorem dX0_grow_14 : decode cX0_grow 14 = .ok (.aload_n 0, 1) := by decide +kernel
theorem dX0_grow_15 : decode cX0_grow 15 = .ok (.getfield 9, 3) := by decide +kernel
theorem dX0_grow_18 : decode cX0_grow 18 = .ok (.iload_n 2, 1) := by decide +kernel
theorem dX0_grow_19 : decode cX0_grow 19 = .ok (.dup2, 1) := by decide +kernel
theorem dX0_grow_20 : decode cX0_grow 20 = .ok (.iaload, 1) := by decide +kernel
theorem dX0_grow_21 : decode cX0_grow 21 = .ok (.iconst 0, 1) := by decide +kernel
theorem dX0_grow_22 : decode cX0_grow 22 = .ok (.aload_n 1, 1) := by decide +kernel
theorem dX0_grow_23 : decode cX0_grow 23 = .ok (.iload_n 2, 1) := by decide +kernel
theorem dX0_grow_24 : decode cX0_grow 24 = .ok (.iaload, 1) := by decide +kernel
theorem dX0_grow_25 : decode cX0_grow 25 = .ok (.invokestatic 22, 3) := by decide +kernel
theorem dX0_grow_28 : decode cX0_grow 28 = .ok (.iadd, 1) := by decide +kernel
theorem dX0_grow_29 : decode cX0_grow 29 = .ok (.iastore, 1) := by decide +kernel
theorem dX0_grow_30 : decode cX0_grow 30 = .ok (.aload_n 0, 1) := by decide +kernel
theorem dX0_grow_31 : decode cX0_grow 31 = .ok (.getfield 15, 3) := by decide +kernel
theorem dX0_grow_34 : decode cX0_grow 34 = .ok (.iload_n 2, 1) := by decide +kernel
theorem dX0_grow_35 : decode cX0_grow 35 = .ok (.dup2, 1) := by decide +kernel
theorem dX0_grow_36 : decode cX0_grow 36 = .ok (.iaload, 1) := by decide +kernel
theorem dX0_grow_37 : decode cX0_grow 37 = .ok (.iconst 0, 1) := by decide +kernel
theorem dX0_grow_38 : decode cX0_grow 38 = .ok (.aload_n 1, 1) := by decide +kernel
theorem dX0_grow_39 : decode cX0_grow 39 = .ok (.iload_n 2, 1) := by decide +kernel
theorem dX0_grow_40 : decode cX0_grow 40 = .ok (.iaload, 1) := by decide +kernel
theorem dX0_grow_41 : decode cX0_grow 41 = .ok (.ineg, 1) := by decide +kernel
theorem dX0_grow_42 : decode cX0_grow 42 = .ok (.invokestatic 22, 3) := by decide +kernel
theorem dX0_grow_45 : decode cX0_grow 45 = .ok (.iadd, 1) := by decide +kernel
theorem dX0_grow_46 : decode cX0_grow 46 = .ok (.iastore, 1) := by decide +kernel
theorem dX0_grow_47 : decode cX0_grow 47 = .ok (.iinc 2 1, 3) := by decide +kernel
theorem dX0_grow_50 : decode cX0_grow 50 = .ok (.goto (-48), 3) := by decide +kernel
theorem dX0_grow_53 : decode cX0_grow 53 = .ok (.return_, 1) := by decide +kernel
theorem dX0_rankOf_0 : decode cX0_rankOf 0 = .ok (.iconst 0, 1) := by decide +kernel
theorem dX0_rankOf_1 : decode cX0_rankOf 1 = .ok (.istore_n 2, 1) := by decide +kernel
theorem dX0_rankOf_2 : decode cX0_rankOf 2 = .ok (.iconst 0, 1) := by decide +kernel
theorem dX0_rankOf_3 : decode cX0_rankOf 3 = .ok (.istore_n 3, 1) := by decide +kernel
theorem dX0_rankOf_4 : decode cX0_rankOf 4 = .ok (.iload_n 3, 1) := by decide +kernel
theorem dX0_rankOf_5 : decode cX0_rankOf 5 = .ok (.bipush 28, 2) := by decide +kernel
theorem dX0_rankOf_7 : decode cX0_rankOf 7 = .ok (.if_icmp .ge 48, 3) := by decide +kernel
theorem dX0_rankOf_10 : decode cX0_rankOf 10 = .ok (.iload_n 3, 1) := by decide +kernel
theorem dX0_rankOf_11 : decode cX0_rankOf 11 = .ok (.aload_n 1, 1) := by decide +kernel
theorem dX0_rankOf_12 : decode cX0_rankOf 12 = .ok (.arraylength, 1) := by decide +kernel
theorem dX0_rankOf_13 : decode cX0_rankOf 13 = .ok (.if_icmp .ge 42, 3) := by decide +kernel
theorem dX0_rankOf_16 : decode cX0_rankOf 16 = .ok (.iload_n 2, 1) := by decide +kernel
theorem dX0_rankOf_17 : decode cX0_rankOf 17 = .ok (.aload_n 1, 1) := by decide +kernel
theorem dX0_rankOf_18 : decode cX0_rankOf 18 = .ok (.iload_n 3, 1) := by decide +kernel
theorem dX0_rankOf_19 : decode cX0_rankOf 19 = .ok (.iaload, 1) := by decide +kernel
theorem dX0_rankOf_20 : decode cX0_rankOf 20 = .ok (.ifCond .le 16, 3) := by decide +kernel
theorem dX0_rankOf_23 : decode cX0_rankOf 23 = .ok (.aload_n 1, 1) := by decide +kernel
theorem dX0_rankOf_24 : decode cX0_rankOf 24 = .ok (.iload_n 3, 1) := by decide +kernel
theorem dX0_rankOf_25 : decode cX0_rankOf 25 = .ok (.iaload, 1) := by decide +kernel
theorem dX0_rankOf_26 : decode cX0_rankOf 26 = .ok (.aload_n 0, 1) := by decide +kernel
theorem dX0_rankOf_27 : decode cX0_rankOf 27 = .ok (.getfield 9, 3) := by decide +kernel
theorem dX0_rankOf_30 : decode cX0_rankOf 30 = .ok (.iload_n 3, 1) := by decide +kernel
theorem dX0_rankOf_31 : decode cX0_rankOf 31 = .ok (.iaload, 1) := by decide +kernel
theorem dX0_rankOf_32 : decode cX0_rankOf 32 = .ok (.imul, 1) := by decide +kernel
theorem dX0_rankOf_33 : decode cX0_rankOf 33 = .ok (.goto 14, 3) := by decide +kernel
theorem dX0_rankOf_36 : decode cX0_rankOf 36 = .ok (.aload_n 1, 1) := by decide +kernel
theorem dX0_rankOf_37 : decode cX0_rankOf 37 = .ok (.iload_n 3, 1) := by decide +kernel
theorem dX0_rankOf_38 : decode cX0_rankOf 38 = .ok (.iaload, 1) := by decide +kernel
theorem dX0_rankOf_39 : decode cX0_rankOf 39 = .ok (.ineg, 1) := by decide +kernel
theorem dX0_rankOf_40 : decode cX0_rankOf 40 = .ok (.aload_n 0, 1) := by decide +kernel
theorem dX0_rankOf_41 : decode cX0_rankOf 41 = .ok (.getfield 15, 3) := by decide +kernel
theorem dX0_rankOf_44 : decode cX0_rankOf 44 = .ok (.iload_n 3, 1) := by decide +kernel
theorem dX0_rankOf_45 : decode cX0_rankOf 45 = .ok (.iaload, 1) := by decide +kernel
theorem dX0_rankOf_46 : decode cX0_rankOf 46 = .ok (.imul, 1) := by decide +kernel
theorem dX0_rankOf_47 : decode cX0_rankOf 47 = .ok (.iadd, 1) := by decide +kernel
theorem dX0_rankOf_48 : decode cX0_rankOf 48 = .ok (.istore_n 2, 1) := by decide +kernel
theorem dX0_rankOf_49 : decode cX0_rankOf 49 = .ok (.iinc 3 1, 3) := by decide +kernel
theorem dX0_rankOf_52 : decode cX0_rankOf 52 = .ok (.goto (-48), 3) := by decide +kernel
theorem dX0_rankOf_55 : decode cX0_rankOf 55 = .ok (.iload_n 2, 1) := by decide +kernel
theorem dX0_rankOf_56 : decode cX0_rankOf 56 = .ok (.ireturn, 1) := by decide +kernel
theorem dX1_init_0 : decode cX1_init 0 = .ok (.aload_n 0, 1) := by decide +kernel
theorem dX1_init_1 : decode cX1_init 1 = .ok (.invokespecial 3, 3) := by decide +kernel
theorem dX1_init_4 : decode cX1_init 4 = .ok (.aload_n 0, 1) := by decide +kernel
theorem dX1_init_5 : decode cX1_init 5 = .ok (.iconst 4, 1) := by decide +kernel
theorem dX1_init_6 : decode cX1_init 6 = .ok (.newarray .int, 2) := by decide +kernel
theorem dX1_init_8 : decode cX1_init 8 = .ok (.putfield 9, 3) := by decide +kernel
theorem dX1_init_11 : decode cX1_init 11 = .ok (.aload_n 0, 1) := by decide +kernel
theorem dX1_init_12 : decode cX1_init 12 = .ok (.new 15, 3) := by decide +kernel
theorem dX1_init_15 : decode cX1_init 15 = .ok (.dup, 1) := by decide +kernel
theorem dX1_init_16 : decode cX1_init 16 = .ok (.invokespecial 17, 3) := by decide +kernel
theorem dX1_init_19 : decode cX1_init 19 = .ok (.putfield 18, 3) := by decide +kernel
theorem dX1_init_22 : decode cX1_init 22 = .ok (.aload_n 0, 1) := by decide +kernel
theorem dX1_init_23 : decode cX1_init 23 = .ok (.new 22, 3) := by decide +kernel
theorem dX1_init_26 : decode cX1_init 26 = .ok (.dup, 1) := by decide +kernel
theorem dX1_init_27 : decode cX1_init 27 = .ok (.invokespecial 24, 3) := by decide +kernel
theorem dX1_init_30 : decode cX1_init 30 = .ok (.putfield 25, 3) := by decide +kernel
theorem dX1_init_33 : decode cX1_init 33 = .ok (.aload_n 0, 1) := by decide +kernel
theorem dX1_init_34 : decode cX1_init 34 = .ok (.iconst 0, 1) := by decide +kernel
theorem dX1_init_35 : decode cX1_init 35 = .ok (.putfield 29, 3) := by decide +kernel
theorem dX1_init_38 : decode cX1_init 38 = .ok (.aload_n 0, 1) := by decide +kernel
theorem dX1_init_39 : decode cX1_init 39 = .ok (.iconst (-1), 1) := by decide +kernel
theorem dX1_init_40 : decode cX1_init 40 = .ok (.putfield 33, 3) := by decide +kernel
theorem dX1_init_43 : decode cX1_init 43 = .ok (.return_, 1) := by decide +kernel
theorem dX1_ask_0 : decode cX1_ask 0 = .ok (.aload_n 0, 1) := by decide +kernel
theorem dX1_ask_1 : decode cX1_ask 1 = .ok (.iload_n 1, 1) := by decide +kernel
theorem dX1_ask_2 : decode cX1_ask 2 = .ok (.putfield 29, 3) := by decide +kernel
theorem dX1_ask_5 : decode cX1_ask 5 = .ok (.aload_n 0, 1) := by decide +kernel
theorem dX1_ask_6 : decode cX1_ask 6 = .ok (.iload_n 2, 1) := by decide +kernel
theorem dX1_ask_7 : decode cX1_ask 7 = .ok (.putfield 33, 3) := by decide +kernel
theorem dX1_ask_10 : decode cX1_ask 10 = .ok (.return_, 1) := by decide +kernel
theorem dX1_isContentWith_0 : decode cX1_isContentWith 0 = .ok (.aload_n 0, 1) := by decide +kernel
theorem dX1_isContentWith_1 : decode cX1_isContentWith 1 = .ok (.getfield 29, 3) := by decide +kernel
theorem dX1_isContentWith_4 : decode cX1_isContentWith 4 = .ok (.ifCond .ne 5, 3) := by decide +kernel
theorem dX1_isContentWith_7 : decode cX1_isContentWith 7 = .ok (.iconst 1, 1) := by decide +kernel
theorem dX1_isContentWith_8 : decode cX1_isContentWith 8 = .ok (.ireturn, 1) := by decide +kernel
theorem dX1_isContentWith_9 : decode cX1_isContentWith 9 = .ok (.aload_n 0, 1) := by decide +kernel
theorem dX1_isContentWith_10 : decode cX1_isContentWith 10 = .ok (.getfield 25, 3) := by decide +kernel
theorem dX1_isContentWith_13 : decode cX1_isContentWith 13 = .ok (.aload_n 1, 1) := by decide +kernel
theorem dX1_isContentWith_14 : decode cX1_isContentWith 14 = .ok (.aload_n 0, 1) := by decide +kernel
theorem dX1_isContentWith_15 : decode cX1_isContentWith 15 = .ok (.getfield 9, 3) := by decide +kernel
theorem dX1_isContentWith_18 : decode cX1_isContentWith 18 = .ok (.invokevirtual 36, 3) := by decide +kernel
theorem dX1_isContentWith_21 : decode cX1_isContentWith 21 = .ok (.istore_n 2, 1) := by decide +kernel
theorem dX1_isContentWith_22 : decode cX1_isContentWith 22 = .ok (.iload_n 2, 1) := by decide +kernel
theorem dX1_isContentWith_23 : decode cX1_isContentWith 23 = .ok (.iconst (-1), 1) := by decide +kernel
theorem dX1_isContentWith_24 : decode cX1_isContentWith 24 = .ok (.if_icmp .eq 19, 3) := by decide +kernel
theorem dX1_isContentWith_27 : decode cX1_isContentWith 27 = .ok (.aload_n 0, 1) := by decide +kernel
theorem dX1_isContentWith_28 : decode cX1_isContentWith 28 = .ok (.getfield 33, 3) := by decide +kernel
theorem dX1_isContentWith_31 : decode cX1_isContentWith 31 = .ok (.iconst (-1), 1) := by decide +kernel
theorem dX1_isContentWith_32 : decode cX1_isContentWith 32 = .ok (.if_icmp .eq 13, 3) := by decide +kernel
theorem dX1_isContentWith_35 : decode cX1_isContentWith 35 = .ok (.iload_n 2, 1) := by decide +kernel
theorem dX1_isContentWith_36 : decode cX1_isContentWith 36 = .ok (.aload_n 0, 1) := by decide +kernel
theorem dX1_isContentWith_37 : decode cX1_isContentWith 37 = .ok (.getfield 33, 3) := by decide +kernel
theorem dX1_isContentWith_40 : decode cX1_isContentWith 40 = .ok (.if_icmp .eq 5, 3) := by decide +kernel
theorem dX1_isContentWith_43 : decode cX1_isContentWith 43 = .ok (.iconst 0, 1) := by decide +kernel
theorem dX1_isContentWith_44 : decode cX1_isContentWith 44 = .ok (.ireturn, 1) := by decide +kernel
theorem dX1_isContentWith_45 : decode cX1_isContentWith 45 = .ok (.aload_n 0, 1) := by decide +kernel
theorem dX1_isContentWith_46 : decode cX1_isContentWith 46 = .ok (.getfield 29, 3) := by decide +kernel
theorem dX1_isContentWith_49 : decode cX1_isContentWith 49 = .ok (.iconst 2, 1) := by decide +kernel
theorem dX1_isContentWith_50 : decode cX1_isContentWith 50 = .ok (.if_icmp .ne 17, 3) := by decide +kernel
theorem dX1_isContentWith_53 : decode cX1_isContentWith 53 = .ok (.aload_n 0, 1) := by decide +kernel
theorem dX1_isContentWith_54 : decode cX1_isContentWith 54 = .ok (.getfield 18, 3) := by decide +kernel
theorem dX1_isContentWith_57 : decode cX1_isContentWith 57 = .ok (.aload_n 0, 1) := by decide +kernel
theorem dX1_isContentWith_58 : decode cX1_isContentWith 58 = .ok (.getfield 25, 3) := by decide +kernel
theorem dX1_isContentWith_61 : decode cX1_isContentWith 61 = .ok (.invokevirtual 40, 3) := by decide +kernel
theorem dX1_isContentWith_64 : decode cX1_isContentWith 64 = .ok (.ifCond .eq 7, 3) := by decide +kernel
theorem dX1_isContentWith_67 : decode cX1_isContentWith 67 = .ok (.iconst 1, 1) := by decide +kernel
theorem dX1_isContentWith_68 : decode cX1_isContentWith 68 = .ok (.goto 4, 3) := by decide +kernel
theorem dX1_isContentWith_71 : decode cX1_isContentWith 71 = .ok (.iconst 0, 1) := by decide +kernel
theorem dX1_isContentWith_72 : decode cX1_isContentWith 72 = .ok (.ireturn, 1) := by decide +kernel
theorem dX2_init_0 : decode cX2_init 0 = .ok (.aload_n 0, 1) := by decide +kernel
theorem dX2_init_1 : decode cX2_init 1 = .ok (.invokespecial 3, 3) := by decide +kernel
theorem dX2_init_4 : decode cX2_init 4 = .ok (.aload_n 0, 1) := by decide +kernel
theorem dX2_init_5 : decode cX2_init 5 = .ok (.new 9, 3) := by decide +kernel
theorem dX2_init_8 : decode cX2_init 8 = .ok (.dup, 1) := by decide +kernel
theorem dX2_init_9 : decode cX2_init 9 = .ok (.invokespecial 11, 3) := by decide +kernel
theorem dX2_init_12 : decode cX2_init 12 = .ok (.putfield 12, 3) := by decide +kernel
theorem dX2_init_15 : decode cX2_init 15 = .ok (.aload_n 0, 1) := by decide +kernel
theorem dX2_init_16 : decode cX2_init 16 = .ok (.sipush 300, 3) := by decide +kernel
theorem dX2_init_19 : decode cX2_init 19 = .ok (.newarray .long, 2) := by decide +kernel
theorem dX2_init_21 : decode cX2_init 21 = .ok (.putfield 18, 3) := by decide +kernel
theorem dX2_init_24 : decode cX2_init 24 = .ok (.aload_n 0, 1) := by decide +kernel
theorem dX2_init_25 : decode cX2_init 25 = .ok (.sipush 300, 3) := by decide +kernel
theorem dX2_init_28 : decode cX2_init 28 = .ok (.newarray .int, 2) := by decide +kernel
theorem dX2_init_30 : decode cX2_init 30 = .ok (.putfield 22, 3) := by decide +kernel
theorem dX2_init_33 : decode cX2_init 33 = .ok (.aload_n 0, 1) := by decide +kernel
theorem dX2_init_34 : decode cX2_init 34 = .ok (.sipush 300, 3) := by decide +kernel
theorem dX2_init_37 : decode cX2_init 37 = .ok (.newarray .int, 2) := by decide +kernel
theorem dX2_init_39 : decode cX2_init 39 = .ok (.putfield 26, 3) := by decide +kernel
theorem dX2_init_42 : decode cX2_init 42 = .ok (.aload_n 0, 1) := by decide +kernel
theorem dX2_init_43 : decode cX2_init 43 = .ok (.bipush 28, 2) := by decide +kernel
theorem dX2_init_45 : decode cX2_init 45 = .ok (.newarray .int, 2) := by decide +kernel
theorem dX2_init_47 : decode cX2_init 47 = .ok (.putfield 29, 3) := by decide +kernel
theorem dX2_init_50 : decode cX2_init 50 = .ok (.aload_n 0, 1) := by decide +kernel
theorem dX2_init_51 : decode cX2_init 51 = .ok (.bipush 28, 2) := by decide +kernel
theorem dX2_init_53 : decode cX2_init 53 = .ok (.newarray .int, 2) := by decide +kernel
theorem dX2_init_55 : decode cX2_init 55 = .ok (.putfield 32, 3) := by decide +kernel
theorem dX2_init_58 : decode cX2_init 58 = .ok (.aload_n 0, 1) := by decide +kernel
theorem dX2_init_59 : decode cX2_init 59 = .ok (.iconst 0, 1) := by decide +kernel
theorem dX2_init_60 : decode cX2_init 60 = .ok (.putfield 35, 3) := by decide +kernel
theorem dX2_init_63 : decode cX2_init 63 = .ok (.aload_n 0, 1) := by decide +kernel
theorem dX2_init_64 : decode cX2_init 64 = .ok (.iconst 0, 1) := by decide +kernel
theorem dX2_init_65 : decode cX2_init 65 = .ok (.putfield 39, 3) := by decide +kernel
theorem dX2_init_68 : decode cX2_init 68 = .ok (.aload_n 0, 1) := by decide +kernel
theorem dX2_init_69 : decode cX2_init 69 = .ok (.iconst 0, 1) := by decide +kernel
theorem dX2_init_70 : decode cX2_init 70 = .ok (.putfield 42, 3) := by decide +kernel
theorem dX2_init_73 : decode cX2_init 73 = .ok (.return_, 1) := by decide +kernel
theorem dX2_size_0 : decode cX2_size 0 = .ok (.aload_n 0, 1) := by decide +kernel
theorem dX2_size_1 : decode cX2_size 1 = .ok (.getfield 35, 3) := by decide +kernel
theorem dX2_size_4 : decode cX2_size 4 = .ok (.ireturn, 1) := by decide +kernel
theorem dX2_has_0 : decode cX2_has 0 = .ok (.iload_n 1, 1) := by decide +kernel
theorem dX2_has_1 : decode cX2_has 1 = .ok (.ifCond .lt 15, 3) := by decide +kernel
theorem dX2_has_4 : decode cX2_has 4 = .ok (.iload_n 1, 1) := by decide +kernel
theorem dX2_has_5 : decode cX2_has 5 = .ok (.aload_n 0, 1) := by decide +kernel
theorem dX2_has_6 : decode cX2_has 6 = .ok (.getfield 35, 3) := by decide +kernel
theorem dX2_has_9 : decode cX2_has 9 = .ok (.if_icmp .ge 7, 3) := by decide +kernel
theorem dX2_has_12 : decode cX2_has 12 = .ok (.iconst 1, 1) := by decide +kernel
theorem dX2_has_13 : decode cX2_has 13 = .ok (.goto 4, 3) := by decide +kernel
theorem dX2_has_16 : decode cX2_has 16 = .ok (.iconst 0, 1) := by decide +kernel
theorem dX2_has_17 : decode cX2_has 17 = .ok (.ireturn, 1) := by decide +kernel
theorem dX2_isOverfull_0 : decode cX2_isOverfull 0 = .ok (.aload_n 0, 1) := by decide +kernel
theorem dX2_isOverfull_1 : decode cX2_isOverfull 1 = .ok (.getfield 42, 3) := by decide +kernel
theorem dX2_isOverfull_4 : decode cX2_isOverfull 4 = .ok (.ireturn, 1) := by decide +kernel
theorem dX2_changesNeeded_0 : decode cX2_changesNeeded 0 = .ok (.aload_n 0, 1) := by decide +kernel
theorem dX2_changesNeeded_1 : decode cX2_changesNeeded 1 = .ok (.getfield 39, 3) := by decide +kernel
theorem dX2_changesNeeded_4 : decode cX2_changesNeeded 4 = .ok (.ireturn, 1) := by decide +kernel
theorem dX2_needChanges_0 : decode cX2_needChanges 0 = .ok (.aload_n 0, 1) := by decide +kernel
theorem dX2_needChanges_1 : decode cX2_needChanges 1 = .ok (.iload_n 1, 1) := by decide +kernel
theorem dX2_needChanges_2 : decode cX2_needChanges 2 = .ok (.putfield 39, 3) := by decide +kernel
theorem dX2_needChanges_5 : decode cX2_needChanges 5 = .ok (.return_, 1) := by decide +kernel
theorem dX2_lengthOf_0 : decode cX2_lengthOf 0 = .ok (.aload_n 0, 1) := by decide +kernel
theorem dX2_lengthOf_1 : decode cX2_lengthOf 1 = .ok (.iload_n 1, 1) := by decide +kernel
theorem dX2_lengthOf_2 : decode cX2_lengthOf 2 = .ok (.invokevirtual 46, 3) := by decide +kernel
theorem dX2_lengthOf_5 : decode cX2_lengthOf 5 = .ok (.ifCond .eq 12, 3) := by decide +kernel
theorem dX2_lengthOf_8 : decode cX2_lengthOf 8 = .ok (.aload_n 0, 1) := by decide +kernel
theorem dX2_lengthOf_9 : decode cX2_lengthOf 9 = .ok (.getfield 22, 3) := by decide +kernel
theorem dX2_lengthOf_12 : decode cX2_lengthOf 12 = .ok (.iload_n 1, 1) := by decide +kernel
theorem dX2_lengthOf_13 : decode cX2_lengthOf 13 = .ok (.iaload, 1) := by decide +kernel
theorem dX2_lengthOf_14 : decode cX2_lengthOf 14 = .ok (.goto 4, 3) := by decide +kernel
theorem dX2_lengthOf_17 : decode cX2_lengthOf 17 = .ok (.iconst (-1), 1) := by decide +kernel
theorem dX2_lengthOf_18 : decode cX2_lengthOf 18 = .ok (.ireturn, 1) := by decide +kernel
theorem dX2_rankOf_0 : decode cX2_rankOf 0 = .ok (.aload_n 0, 1) := by decide +kernel
theorem dX2_rankOf_1 : decode cX2_rankOf 1 = .ok (.iload_n 1, 1) := by decide +kernel
theorem dX2_rankOf_2 : decode cX2_rankOf 2 = .ok (.invokevirtual 46, 3) := by decide +kernel
theorem dX2_rankOf_5 : decode cX2_rankOf 5 = .ok (.ifCond .eq 12, 3) := by decide +kernel
theorem dX2_rankOf_8 : decode cX2_rankOf 8 = .ok (.aload_n 0, 1) := by decide +kernel
theorem dX2_rankOf_9 : decode cX2_rankOf 9 = .ok (.getfield 26, 3) := by decide +kernel
theorem dX2_rankOf_12 : decode cX2_rankOf 12 = .ok (.iload_n 1, 1) := by decide +kernel
theorem dX2_rankOf_13 : decode cX2_rankOf 13 = .ok (.iaload, 1) := by decide +kernel
theorem dX2_rankOf_14 : decode cX2_rankOf 14 = .ok (.goto 4, 3) := by decide +kernel
theorem dX2_rankOf_17 : decode cX2_rankOf 17 = .ok (.iconst (-1), 1) := by decide +kernel
theorem dX2_rankOf_18 : decode cX2_rankOf 18 = .ok (.ireturn, 1) := by decide +kernel
theorem dX2_tokenOf_0 : decode cX2_tokenOf 0 = .ok (.aload_n 0, 1) := by decide +kernel
theorem dX2_tokenOf_1 : decode cX2_tokenOf 1 = .ok (.iload_n 1, 1) := by decide +kernel
theorem dX2_tokenOf_2 : decode cX2_tokenOf 2 = .ok (.invokevirtual 46, 3) := by decide +kernel
theorem dX2_tokenOf_5 : decode cX2_tokenOf 5 = .ok (.ifCond .eq 17, 3) := by decide +kernel
theorem dX2_tokenOf_8 : decode cX2_tokenOf 8 = .ok (.iload_n 2, 1) := by decide +kernel
theorem dX2_tokenOf_9 : decode cX2_tokenOf 9 = .ok (.ifCond .lt 13, 3) := by decide +kernel
theorem dX2_tokenOf_12 : decode cX2_tokenOf 12 = .ok (.iload_n 2, 1) := by decide +kernel
theorem dX2_tokenOf_13 : decode cX2_tokenOf 13 = .ok (.aload_n 0, 1) := by decide +kernel
theorem dX2_tokenOf_14 : decode cX2_tokenOf 14 = .ok (.getfield 22, 3) := by decide +kernel
theorem dX2_tokenOf_17 : decode cX2_tokenOf 17 = .ok (.iload_n 1, 1) := by decide +kernel
theorem dX2_tokenOf_18 : decode cX2_tokenOf 18 = .ok (.iaload, 1) := by decide +kernel
theorem dX2_tokenOf_19 : decode cX2_tokenOf 19 = .ok (.if_icmp .lt 5, 3) := by decide +kernel
theorem dX2_tokenOf_22 : decode cX2_tokenOf 22 = .ok (.iconst (-1), 1) := by decide +kernel
theorem dX2_tokenOf_23 : decode cX2_tokenOf 23 = .ok (.ireturn, 1) := by decide +kernel
theorem dX2_tokenOf_24 : decode cX2_tokenOf 24 = .ok (.aload_n 0, 1) := by decide +kernel
theorem dX2_tokenOf_25 : decode cX2_tokenOf 25 = .ok (.getfield 18, 3) := by decide +kernel
theorem dX2_tokenOf_28 : decode cX2_tokenOf 28 = .ok (.iload_n 1, 1) := by decide +kernel
theorem dX2_tokenOf_29 : decode cX2_tokenOf 29 = .ok (.laload, 1) := by decide +kernel
theorem dX2_tokenOf_30 : decode cX2_tokenOf 30 = .ok (.iconst 5, 1) := by decide +kernel
theorem dX2_tokenOf_31 : decode cX2_tokenOf 31 = .ok (.aload_n 0, 1) := by decide +kernel
theorem dX2_tokenOf_32 : decode cX2_tokenOf 32 = .ok (.getfield 22, 3) := by decide +kernel
theorem dX2_tokenOf_35 : decode cX2_tokenOf 35 = .ok (.iload_n 1, 1) := by decide +kernel
theorem dX2_tokenOf_36 : decode cX2_tokenOf 36 = .ok (.iaload, 1) := by decide +kernel
theorem dX2_tokenOf_37 : decode cX2_tokenOf 37 = .ok (.iconst 1, 1) := by decide +kernel
theorem dX2_tokenOf_38 : decode cX2_tokenOf 38 = .ok (.isub, 1) := by decide +kernel
theorem dX2_tokenOf_39 : decode cX2_tokenOf 39 = .ok (.iload_n 2, 1) := by decide +kernel
theorem dX2_tokenOf_40 : decode cX2_tokenOf 40 = .ok (.isub, 1) := by decide +kernel
theorem dX2_tokenOf_41 : decode cX2_tokenOf 41 = .ok (.imul, 1) := by decide +kernel
theorem dX2_tokenOf_42 : decode cX2_tokenOf 42 = .ok (.lshr, 1) := by decide +kernel
theorem dX2_tokenOf_43 : decode cX2_tokenOf 43 = .ok (.ldc2_w 50, 3) := by decide +kernel
theorem dX2_tokenOf_46 : decode cX2_tokenOf 46 = .ok (.land, 1) := by decide +kernel
theorem dX2_tokenOf_47 : decode cX2_tokenOf 47 = .ok (.l2i, 1) := by decide +kernel
theorem dX2_tokenOf_48 : decode cX2_tokenOf 48 = .ok (.ireturn, 1) := by decide +kernel
theorem dX2_copyTo_0 : decode cX2_copyTo 0 = .ok (.aload_n 2, 1) := by decide +kernel
theorem dX2_copyTo_1 : decode cX2_copyTo 1 = .ok (.iconst 0, 1) := by decide +kernel
theorem dX2_copyTo_2 : decode cX2_copyTo 2 = .ok (.invokevirtual 52, 3) := by decide +kernel
theorem dX2_copyTo_5 : decode cX2_copyTo 5 = .ok (.iconst 0, 1) := by decide +kernel
theorem dX2_copyTo_6 : decode cX2_copyTo 6 = .ok (.istore_n 3, 1) := by decide +kernel
theorem dX2_copyTo_7 : decode cX2_copyTo 7 = .ok (.iload_n 3, 1) := by decide +kernel
theorem dX2_copyTo_8 : decode cX2_copyTo 8 = .ok (.aload_n 0, 1) := by decide +kernel
theorem dX2_copyTo_9 : decode cX2_copyTo 9 = .ok (.iload_n 1, 1) := by decide +kernel
theorem dX2_copyTo_10 : decode cX2_copyTo 10 = .ok (.invokevirtual 58, 3) := by decide +kernel
theorem dX2_copyTo_13 : decode cX2_copyTo 13 = .ok (.if_icmp .ge 19, 3) := by decide +kernel
theorem dX2_copyTo_16 : decode cX2_copyTo 16 = .ok (.aload_n 2, 1) := by decide +kernel
theorem dX2_copyTo_17 : decode cX2_copyTo 17 = .ok (.aload_n 0, 1) := by decide +kernel
theorem dX2_copyTo_18 : decode cX2_copyTo 18 = .ok (.iload_n 1, 1) := by decide +kernel
theorem dX2_copyTo_19 : decode cX2_copyTo 19 = .ok (.iload_n 3, 1) := by decide +kernel
theorem dX2_copyTo_20 : decode cX2_copyTo 20 = .ok (.invokevirtual 62, 3) := by decide +kernel
theorem dX2_copyTo_23 : decode cX2_copyTo 23 = .ok (.invokevirtual 66, 3) := by decide +kernel
theorem dX2_copyTo_26 : decode cX2_copyTo 26 = .ok (.iinc 3 1, 3) := by decide +kernel
theorem dX2_copyTo_29 : decode cX2_copyTo 29 = .ok (.goto (-22), 3) := by decide +kernel
theorem dX2_copyTo_32 : decode cX2_copyTo 32 = .ok (.return_, 1) := by decide +kernel
theorem dX2_forgetAll_0 : decode cX2_forgetAll 0 = .ok (.aload_n 0, 1) := by decide +kernel
theorem dX2_forgetAll_1 : decode cX2_forgetAll 1 = .ok (.iconst 0, 1) := by decide +kernel
theorem dX2_forgetAll_2 : decode cX2_forgetAll 2 = .ok (.putfield 35, 3) := by decide +kernel
theorem dX2_forgetAll_5 : decode cX2_forgetAll 5 = .ok (.aload_n 0, 1) := by decide +kernel
theorem dX2_forgetAll_6 : decode cX2_forgetAll 6 = .ok (.iconst 0, 1) := by decide +kernel
theorem dX2_forgetAll_7 : decode cX2_forgetAll 7 = .ok (.putfield 42, 3) := by decide +kernel
theorem dX2_forgetAll_10 : decode cX2_forgetAll 10 = .ok (.return_, 1) := by decide +kernel
theorem dX2_begin_0 : decode cX2_begin 0 = .ok (.aload_n 0, 1) := by decide +kernel
theorem dX2_begin_1 : decode cX2_begin 1 = .ok (.invokevirtual 69, 3) := by decide +kernel
theorem dX2_begin_4 : decode cX2_begin 4 = .ok (.iconst 0, 1) := by decide +kernel
theorem dX2_begin_5 : decode cX2_begin 5 = .ok (.istore_n 2, 1) := by decide +kernel
theorem dX2_begin_6 : decode cX2_begin 6 = .ok (.iload_n 2, 1) := by decide +kernel
theorem dX2_begin_7 : decode cX2_begin 7 = .ok (.bipush 28, 2) := by decide +kernel
theorem dX2_begin_9 : decode cX2_begin 9 = .ok (.if_icmp .ge 16, 3) := by decide +kernel
theorem dX2_begin_12 : decode cX2_begin 12 = .ok (.aload_n 0, 1) := by decide +kernel
theorem dX2_begin_13 : decode cX2_begin 13 = .ok (.getfield 29, 3) := by decide +kernel
theorem dX2_begin_16 : decode cX2_begin 16 = .ok (.iload_n 2, 1) := by decide +kernel
theorem dX2_begin_17 : decode cX2_begin 17 = .ok (.iconst 0, 1) := by decide +kernel
theorem dX2_begin_18 : decode cX2_begin 18 = .ok (.iastore, 1) := by decide +kernel
theorem dX2_begin_19 : decode cX2_begin 19 = .ok (.iinc 2 1, 3) := by decide +kernel
theorem dX2_begin_22 : decode cX2_begin 22 = .ok (.goto (-16), 3) := by decide +kernel
theorem dX2_begin_25 : decode cX2_begin 25 = .ok (.iconst 0, 1) := by decide +kernel
theorem dX2_begin_26 : decode cX2_begin 26 = .ok (.istore_n 2, 1) := by decide +kernel
theorem dX2_begin_27 : decode cX2_begin 27 = .ok (.iload_n 2, 1) := by decide +kernel
theorem dX2_begin_28 : decode cX2_begin 28 = .ok (.aload_n 1, 1) := by decide +kernel
theorem dX2_begin_29 : decode cX2_begin 29 = .ok (.invokevirtual 72, 3) := by decide +kernel
theorem dX2_begin_32 : decode cX2_begin 32 = .ok (.if_icmp .ge 34, 3) := by decide +kernel
theorem dX2_begin_35 : decode cX2_begin 35 = .ok (.aload_n 1, 1) := by decide +kernel
theorem dX2_begin_36 : decode cX2_begin 36 = .ok (.iload_n 2, 1) := by decide +kernel
theorem dX2_begin_37 : decode cX2_begin 37 = .ok (.invokevirtual 75, 3) := by decide +kernel
theorem dX2_begin_40 : decode cX2_begin 40 = .ok (.invokestatic 78, 3) := by decide +kernel
theorem dX2_begin_43 : decode cX2_begin 43 = .ok (.ifCond .eq 17, 3) := by decide +kernel
theorem dX2_begin_46 : decode cX2_begin 46 = .ok (.aload_n 0, 1) := by decide +kernel
theorem dX2_begin_47 : decode cX2_begin 47 = .ok (.getfield 29, 3) := by decide +kernel
theorem dX2_begin_50 : decode cX2_begin 50 = .ok (.aload_n 1, 1) := by decide +kernel
theorem dX2_begin_51 : decode cX2_begin 51 = .ok (.iload_n 2, 1) := by decide +kernel
theorem dX2_begin_52 : decode cX2_begin 52 = .ok (.invokevirtual 75, 3) := by decide +kernel
theorem dX2_begin_55 : decode cX2_begin 55 = .ok (.dup2, 1) := by decide +kernel
theorem dX2_begin_56 : decode cX2_begin 56 = .ok (.iaload, 1) := by decide +kernel
theorem dX2_begin_57 : decode cX2_begin 57 = .ok (.iconst 1, 1) := by decide +kernel
theorem dX2_begin_58 : decode cX2_begin 58 = .ok (.iadd, 1) := by decide +kernel
theorem dX2_begin_59 : decode cX2_begin 59 = .ok (.iastore, 1) := by decide +kernel
theorem dX2_begin_60 : decode cX2_begin 60 = .ok (.iinc 2 1, 3) := by decide +kernel
theorem dX2_begin_63 : decode cX2_begin 63 = .ok (.goto (-36), 3) := by decide +kernel
theorem dX2_begin_66 : decode cX2_begin 66 = .ok (.return_, 1) := by decide +kernel
theorem dX2_compare_0 : decode cX2_compare 0 = .ok (.iconst 0, 1) := by decide +kernel
theorem dX2_compare_1 : decode cX2_compare 1 = .ok (.istore_n 2, 1) := by decide +kernel
theorem dX2_compare_2 : decode cX2_compare 2 = .ok (.iload_n 2, 1) := by decide +kernel
theorem dX2_compare_3 : decode cX2_compare 3 = .ok (.bipush 28, 2) := by decide +kernel
theorem dX2_compare_5 : decode cX2_compare 5 = .ok (.if_icmp .ge 22, 3) := by decide +kernel
theorem dX2_compare_8 : decode cX2_compare 8 = .ok (.aload_n 0, 1) := by decide +kernel
theorem dX2_compare_9 : decode cX2_compare 9 = .ok (.getfield 32, 3) := by decide +kernel
theorem dX2_compare_12 : decode cX2_compare 12 = .ok (.iload_n 2, 1) := by decide +kernel
theorem dX2_compare_13 : decode cX2_compare 13 = .ok (.aload_n 0, 1) := by decide +kernel
theorem dX2_compare_14 : decode cX2_compare 14 = .ok (.getfield 29, 3) := by decide +kernel
theorem dX2_compare_17 : decode cX2_compare 17 = .ok (.iload_n 2, 1) := by decide +kernel
theorem dX2_compare_18 : decode cX2_compare 18 = .ok (.iaload, 1) := by decide +kernel
theorem dX2_compare_19 : decode cX2_compare 19 = .ok (.ineg, 1) := by decide +kernel
theorem dX2_compare_20 : decode cX2_compare 20 = .ok (.iastore, 1) := by decide +kernel
theorem dX2_compare_21 : decode cX2_compare 21 = .ok (.iinc 2 1, 3) := by decide +kernel
theorem dX2_compare_24 : decode cX2_compare 24 = .ok (.goto (-22), 3) := by decide +kernel
theorem dX2_compare_27 : decode cX2_compare 27 = .ok (.iconst 0, 1) := by decide +kernel
theorem dX2_compare_28 : decode cX2_compare 28 = .ok (.istore_n 2, 1) := by decide +kernel
theorem dX2_compare_29 : decode cX2_compare 29 = .ok (.iload_n 2, 1) := by decide +kernel
theorem dX2_compare_30 : decode cX2_compare 30 = .ok (.aload_n 1, 1) := by decide +kernel
theorem dX2_compare_31 : decode cX2_compare 31 = .ok (.invokevirtual 72, 3) := by decide +kernel
theorem dX2_compare_34 : decode cX2_compare 34 = .ok (.if_icmp .ge 34, 3) := by decide +kernel
theorem dX2_compare_37 : decode cX2_compare 37 = .ok (.aload_n 1, 1) := by decide +kernel
theorem dX2_compare_38 : decode cX2_compare 38 = .ok (.iload_n 2, 1) := by decide +kernel
theorem dX2_compare_39 : decode cX2_compare 39 = .ok (.invokevirtual 75, 3) := by decide +kernel
theorem dX2_compare_42 : decode cX2_compare 42 = .ok (.invokestatic 78, 3) := by decide +kernel
theorem dX2_compare_45 : decode cX2_compare 45 = .ok (.ifCond .eq 17, 3) := by decide +kernel
theorem dX2_compare_48 : decode cX2_compare 48 = .ok (.aload_n 0, 1) := by decide +kernel
theorem dX2_compare_49 : decode cX2_compare 49 = .ok (.getfield 32, 3) := by decide +kernel
theorem dX2_compare_52 : decode cX2_compare 52 = .ok (.aload_n 1, 1) := by decide +kernel
theorem dX2_compare_53 : decode cX2_compare 53 = .ok (.iload_n 2, 1) := by decide +kernel
theorem dX2_compare_54 : decode cX2_compare 54 = .ok (.invokevirtual 75, 3) := by decide +kernel
theorem dX2_compare_57 : decode cX2_compare 57 = .ok (.dup2, 1) := by decide +kernel
theorem dX2_compare_58 : decode cX2_compare 58 = .ok (.iaload, 1) := by decide +kernel
theorem dX2_compare_59 : decode cX2_compare 59 = .ok (.iconst 1, 1) := by decide +kernel
theorem dX2_compare_60 : decode cX2_compare 60 = .ok (.iadd, 1) := by decide +kernel
theorem dX2_compare_61 : decode cX2_compare 61 = .ok (.iastore, 1) := by decide +kernel
theorem dX2_compare_62 : decode cX2_compare 62 = .ok (.iinc 2 1, 3) := by decide +kernel
theorem dX2_compare_65 : decode cX2_compare 65 = .ok (.goto (-36), 3) := by decide +kernel
theorem dX2_compare_68 : decode cX2_compare 68 = .ok (.return_, 1) := by decide +kernel
theorem dX2_learnFrom_0 : decode cX2_learnFrom 0 = .ok (.aload_n 0, 1) := by decide +kernel
theorem dX2_learnFrom_1 : decode cX2_learnFrom 1 = .ok (.aload_n 1, 1) := by decide +kernel
theorem dX2_learnFrom_2 : decode cX2_learnFrom 2 = .ok (.invokevirtual 81, 3) := by decide +kernel
theorem dX2_learnFrom_5 : decode cX2_learnFrom 5 = .ok (.aload_n 0, 1) := by decide +kernel
theorem dX2_learnFrom_6 : decode cX2_learnFrom 6 = .ok (.getfield 12, 3) := by decide +kernel
theorem dX2_learnFrom_9 : decode cX2_learnFrom 9 = .ok (.aload_n 0, 1) := by decide +kernel
theorem dX2_learnFrom_10 : decode cX2_learnFrom 10 = .ok (.getfield 32, 3) := by decide +kernel
theorem dX2_learnFrom_13 : decode cX2_learnFrom 13 = .ok (.invokevirtual 85, 3) := by decide +kernel
theorem dX2_learnFrom_16 : decode cX2_learnFrom 16 = .ok (.return_, 1) := by decide +kernel
theorem dX2_add_0 : decode cX2_add 0 = .ok (.aload_n 0, 1) := by decide +kernel
theorem dX2_add_1 : decode cX2_add 1 = .ok (.getfield 35, 3) := by decide +kernel
theorem dX2_add_4 : decode cX2_add 4 = .ok (.sipush 300, 3) := by decide +kernel
theorem dX2_add_7 : decode cX2_add 7 = .ok (.if_icmp .lt 9, 3) := by decide +kernel
theorem dX2_add_10 : decode cX2_add 10 = .ok (.aload_n 0, 1) := by decide +kernel
theorem dX2_add_11 : decode cX2_add 11 = .ok (.iconst 1, 1) := by decide +kernel
theorem dX2_add_12 : decode cX2_add 12 = .ok (.putfield 42, 3) := by decide +kernel
theorem dX2_add_15 : decode cX2_add 15 = .ok (.return_, 1) := by decide +kernel
theorem dX2_add_16 : decode cX2_add 16 = .ok (.aload_n 0, 1) := by decide +kernel
theorem dX2_add_17 : decode cX2_add 17 = .ok (.aload_n 1, 1) := by decide +kernel
theorem dX2_add_18 : decode cX2_add 18 = .ok (.invokevirtual 81, 3) := by decide +kernel
theorem dX2_add_21 : decode cX2_add 21 = .ok (.aload_n 0, 1) := by decide +kernel
theorem dX2_add_22 : decode cX2_add 22 = .ok (.getfield 12, 3) := by decide +kernel
theorem dX2_add_25 : decode cX2_add 25 = .ok (.aload_n 0, 1) := by decide +kernel
theorem dX2_add_26 : decode cX2_add 26 = .ok (.getfield 32, 3) := by decide +kernel
theorem dX2_add_29 : decode cX2_add 29 = .ok (.invokevirtual 89, 3) := by decide +kernel
theorem dX2_add_32 : decode cX2_add 32 = .ok (.istore_n 2, 1) := by decide +kernel
theorem dX2_add_33 : decode cX2_add 33 = .ok (.lconst 0, 1) := by decide +kernel
theorem dX2_add_34 : decode cX2_add 34 = .ok (.lstore_n 3, 1) := by decide +kernel
theorem dX2_add_35 : decode cX2_add 35 = .ok (.iconst 0, 1) := by decide +kernel
theorem dX2_add_36 : decode cX2_add 36 = .ok (.istore 5, 2) := by decide +kernel
theorem dX2_add_38 : decode cX2_add 38 = .ok (.iload 5, 2) := by decide +kernel
theorem dX2_add_40 : decode cX2_add 40 = .ok (.aload_n 1, 1) := by decide +kernel
theorem dX2_add_41 : decode cX2_add 41 = .ok (.invokevirtual 72, 3) := by decide +kernel
theorem dX2_add_44 : decode cX2_add 44 = .ok (.if_icmp .ge 21, 3) := by decide +kernel
theorem dX2_add_47 : decode cX2_add 47 = .ok (.lload_n 3, 1) := by decide +kernel
theorem dX2_add_48 : decode cX2_add 48 = .ok (.iconst 5, 1) := by decide +kernel
theorem dX2_add_49 : decode cX2_add 49 = .ok (.lshl, 1) := by decide +kernel
theorem dX2_add_50 : decode cX2_add 50 = .ok (.aload_n 1, 1) := by decide +kernel
theorem dX2_add_51 : decode cX2_add 51 = .ok (.iload 5, 2) := by decide +kernel
theorem dX2_add_53 : decode cX2_add 53 = .ok (.invokevirtual 75, 3) := by decide +kernel
theorem dX2_add_56 : decode cX2_add 56 = .ok (.i2l, 1) := by decide +kernel
theorem dX2_add_57 : decode cX2_add 57 = .ok (.lor, 1) := by decide +kernel
theorem dX2_add_58 : decode cX2_add 58 = .ok (.lstore_n 3, 1) := by decide +kernel
theorem dX2_add_59 : decode cX2_add 59 = .ok (.iinc 5 1, 3) := by decide +kernel
theorem dX2_add_62 : decode cX2_add 62 = .ok (.goto (-24), 3) := by decide +kernel
theorem dX2_add_65 : decode cX2_add 65 = .ok (.aload_n 0, 1) := by decide +kernel
theorem dX2_add_66 : decode cX2_add 66 = .ok (.getfield 35, 3) := by decide +kernel
theorem dX2_add_69 : decode cX2_add 69 = .ok (.istore 5, 2) := by decide +kernel
theorem dX2_add_71 : decode cX2_add 71 = .ok (.iload 5, 2) := by decide +kernel
theorem dX2_add_73 : decode cX2_add 73 = .ok (.ifCond .le 74, 3) := by decide +kernel
theorem dX2_add_76 : decode cX2_add 76 = .ok (.aload_n 0, 1) := by decide +kernel
theorem dX2_add_77 : decode cX2_add 77 = .ok (.iload 5, 2) := by decide +kernel
theorem dX2_add_79 : decode cX2_add 79 = .ok (.iconst 1, 1) := by decide +kernel
theorem dX2_add_80 : decode cX2_add 80 = .ok (.isub, 1) := by decide +kernel
theorem dX2_add_81 : decode cX2_add 81 = .ok (.lload_n 3, 1) := by decide +kernel
theorem dX2_add_82 : decode cX2_add 82 = .ok (.aload_n 1, 1) := by decide +kernel
theorem dX2_add_83 : decode cX2_add 83 = .ok (.invokevirtual 72, 3) := by decide +kernel
theorem dX2_add_86 : decode cX2_add 86 = .ok (.iload_n 2, 1) := by decide +kernel
theorem dX2_add_87 : decode cX2_add 87 = .ok (.invokevirtual 93, 3) := by decide +kernel
theorem dX2_add_90 : decode cX2_add 90 = .ok (.ifCond .ne 57, 3) := by decide +kernel
theorem dX2_add_93 : decode cX2_add 93 = .ok (.aload_n 0, 1) := by decide +kernel
theorem dX2_add_94 : decode cX2_add 94 = .ok (.getfield 18, 3) := by decide +kernel
theorem dX2_add_97 : decode cX2_add 97 = .ok (.iload 5, 2) := by decide +kernel
theorem dX2_add_99 : decode cX2_add 99 = .ok (.aload_n 0, 1) := by decide +kernel
theorem dX2_add_100 : decode cX2_add 100 = .ok (.getfield 18, 3) := by decide +kernel
theorem dX2_add_103 : decode cX2_add 103 = .ok (.iload 5, 2) := by decide +kernel
theorem dX2_add_105 : decode cX2_add 105 = .ok (.iconst 1, 1) := by decide +kernel
theorem dX2_add_106 : decode cX2_add 106 = .ok (.isub, 1) := by decide +kernel
theorem dX2_add_107 : decode cX2_add 107 = .ok (.laload, 1) := by decide +kernel
theorem dX2_add_108 : decode cX2_add 108 = .ok (.lastore, 1) := by decide +kernel
theorem dX2_add_109 : decode cX2_add 109 = .ok (.aload_n 0, 1) := by decide +kernel
theorem dX2_add_110 : decode cX2_add 110 = .ok (.getfield 22, 3) := by decide +kernel
theorem dX2_add_113 : decode cX2_add 113 = .ok (.iload 5, 2) := by decide +kernel
theorem dX2_add_115 : decode cX2_add 115 = .ok (.aload_n 0, 1) := by decide +kernel
theorem dX2_add_116 : decode cX2_add 116 = .ok (.getfield 22, 3) := by decide +kernel
theorem dX2_add_119 : decode cX2_add 119 = .ok (.iload 5, 2) := by decide +kernel
theorem dX2_add_121 : decode cX2_add 121 = .ok (.iconst 1, 1) := by decide +kernel
theorem dX2_add_122 : decode cX2_add 122 = .ok (.isub, 1) := by decide +kernel
theorem dX2_add_123 : decode cX2_add 123 = .ok (.iaload, 1) := by decide +kernel
theorem dX2_add_124 : decode cX2_add 124 = .ok (.iastore, 1) := by decide +kernel
theorem dX2_add_125 : decode cX2_add 125 = .ok (.aload_n 0, 1) := by decide +kernel
theorem dX2_add_126 : decode cX2_add 126 = .ok (.getfield 26, 3) := by decide +kernel
theorem dX2_add_129 : decode cX2_add 129 = .ok (.iload 5, 2) := by decide +kernel
theorem dX2_add_131 : decode cX2_add 131 = .ok (.aload_n 0, 1) := by decide +kernel
theorem dX2_add_132 : decode cX2_add 132 = .ok (.getfield 26, 3) := by decide +kernel
theorem dX2_add_135 : decode cX2_add 135 = .ok (.iload 5, 2) := by decide +kernel
theorem dX2_add_137 : decode cX2_add 137 = .ok (.iconst 1, 1) := by decide +kernel
theorem dX2_add_138 : decode cX2_add 138 = .ok (.isub, 1) := by decide +kernel
theorem dX2_add_139 : decode cX2_add 139 = .ok (.iaload, 1) := by decide +kernel
theorem dX2_add_140 : decode cX2_add 140 = .ok (.iastore, 1) := by decide +kernel
theorem dX2_add_141 : decode cX2_add 141 = .ok (.iinc 5 (-1), 3) := by decide +kernel
theorem dX2_add_144 : decode cX2_add 144 = .ok (.goto (-73), 3) := by decide +kernel
theorem dX2_add_147 : decode cX2_add 147 = .ok (.aload_n 0, 1) := by decide +kernel
theorem dX2_add_148 : decode cX2_add 148 = .ok (.getfield 18, 3) := by decide +kernel
theorem dX2_add_151 : decode cX2_add 151 = .ok (.iload 5, 2) := by decide +kernel
theorem dX2_add_153 : decode cX2_add 153 = .ok (.lload_n 3, 1) := by decide +kernel
theorem dX2_add_154 : decode cX2_add 154 = .ok (.lastore, 1) := by decide +kernel
theorem dX2_add_155 : decode cX2_add 155 = .ok (.aload_n 0, 1) := by decide +kernel
theorem dX2_add_156 : decode cX2_add 156 = .ok (.getfield 22, 3) := by decide +kernel
theorem dX2_add_159 : decode cX2_add 159 = .ok (.iload 5, 2) := by decide +kernel
theorem dX2_add_161 : decode cX2_add 161 = .ok (.aload_n 1, 1) := by decide +kernel
theorem dX2_add_162 : decode cX2_add 162 = .ok (.invokevirtual 72, 3) := by decide +kernel
theorem dX2_add_165 : decode cX2_add 165 = .ok (.iastore, 1) := by decide +kernel
theorem dX2_add_166 : decode cX2_add 166 = .ok (.aload_n 0, 1) := by decide +kernel
theorem dX2_add_167 : decode cX2_add 167 = .ok (.getfield 26, 3) := by decide +kernel
theorem dX2_add_170 : decode cX2_add 170 = .ok (.iload 5, 2) := by decide +kernel
theorem dX2_add_172 : decode cX2_add 172 = .ok (.iload_n 2, 1) := by decide +kernel
theorem dX2_add_173 : decode cX2_add 173 = .ok (.iastore, 1) := by decide +kernel
theorem dX2_add_174 : decode cX2_add 174 = .ok (.aload_n 0, 1) := by decide +kernel
theorem dX2_add_175 : decode cX2_add 175 = .ok (.dup, 1) := by decide +kernel
theorem dX2_add_176 : decode cX2_add 176 = .ok (.getfield 35, 3) := by decide +kernel
theorem dX2_add_179 : decode cX2_add 179 = .ok (.iconst 1, 1) := by decide +kernel
theorem dX2_add_180 : decode cX2_add 180 = .ok (.iadd, 1) := by decide +kernel
theorem dX2_add_181 : decode cX2_add 181 = .ok (.putfield 35, 3) := by decide +kernel
theorem dX2_add_184 : decode cX2_add 184 = .ok (.return_, 1) := by decide +kernel
theorem dX2_isBefore_0 : decode cX2_isBefore 0 = .ok (.aload_n 0, 1) := by decide +kernel
theorem dX2_isBefore_1 : decode cX2_isBefore 1 = .ok (.getfield 26, 3) := by decide +kernel
theorem dX2_isBefore_4 : decode cX2_isBefore 4 = .ok (.iload_n 1, 1) := by decide +kernel
theorem dX2_isBefore_5 : decode cX2_isBefore 5 = .ok (.iaload, 1) := by decide +kernel
theorem dX2_isBefore_6 : decode cX2_isBefore 6 = .ok (.iload 5, 2) := by decide +kernel
theorem dX2_isBefore_8 : decode cX2_isBefore 8 = .ok (.if_icmp .eq 20, 3) := by decide +kernel
theorem dX2_isBefore_11 : decode cX2_isBefore 11 = .ok (.aload_n 0, 1) := by decide +kernel
theorem dX2_isBefore_12 : decode cX2_isBefore 12 = .ok (.getfield 26, 3) := by decide +kernel
theorem dX2_isBefore_15 : decode cX2_isBefore 15 = .ok (.iload_n 1, 1) := by decide +kernel
theorem dX2_isBefore_16 : decode cX2_isBefore 16 = .ok (.iaload, 1) := by decide +kernel
theorem dX2_isBefore_17 : decode cX2_isBefore 17 = .ok (.iload 5, 2) := by decide +kernel
theorem dX2_isBefore_19 : decode cX2_isBefore 19 = .ok (.if_icmp .le 7, 3) := by decide +kernel
theorem dX2_isBefore_22 : decode cX2_isBefore 22 = .ok (.iconst 1, 1) := by decide +kernel
theorem dX2_isBefore_23 : decode cX2_isBefore 23 = .ok (.goto 4, 3) := by decide +kernel
theorem dX2_isBefore_26 : decode cX2_isBefore 26 = .ok (.iconst 0, 1) := by decide +kernel
theorem dX2_isBefore_27 : decode cX2_isBefore 27 = .ok (.ireturn, 1) := by decide +kernel
theorem dX2_isBefore_28 : decode cX2_isBefore 28 = .ok (.aload_n 0, 1) := by decide +kernel
theorem dX2_isBefore_29 : decode cX2_isBefore 29 = .ok (.getfield 22, 3) := by decide +kernel
theorem dX2_isBefore_32 : decode cX2_isBefore 32 = .ok (.iload_n 1, 1) := by decide +kernel
theorem dX2_isBefore_33 : decode cX2_isBefore 33 = .ok (.iaload, 1) := by decide +kernel
theorem dX2_isBefore_34 : decode cX2_isBefore 34 = .ok (.iload 4, 2) := by decide +kernel
theorem dX2_isBefore_36 : decode cX2_isBefore 36 = .ok (.if_icmp .eq 22, 3) := by decide +kernel
theorem dX2_isBefore_39 : decode cX2_isBefore 39 = .ok (.aload_n 0, 1) := by decide +kernel
theorem dX2_isBefore_40 : decode cX2_isBefore 40 = .ok (.getfield 22, 3) := by decide +kernel
theorem dX2_isBefore_43 : decode cX2_isBefore 43 = .ok (.iload_n 1, 1) := by decide +kernel
theorem dX2_isBefore_44 : decode cX2_isBefore 44 = .ok (.iaload, 1) := by decide +kernel
theorem dX2_isBefore_45 : decode cX2_isBefore 45 = .ok (.iload 4, 2) := by decide +kernel
theorem dX2_isBefore_47 : decode cX2_isBefore 47 = .ok (.if_icmp .ge 7, 3) := by decide +kernel
theorem dX2_isBefore_50 : decode cX2_isBefore 50 = .ok (.iconst 1, 1) := by decide +kernel
theorem dX2_isBefore_51 : decode cX2_isBefore 51 = .ok (.goto 23, 3) := by decide +kernel
theorem dX2_isBefore_54 : decode cX2_isBefore 54 = .ok (.iconst 0, 1) := by decide +kernel
theorem dX2_isBefore_55 : decode cX2_isBefore 55 = .ok (.goto 19, 3) := by decide +kernel
theorem dX2_isBefore_58 : decode cX2_isBefore 58 = .ok (.aload_n 0, 1) := by decide +kernel
theorem dX2_isBefore_59 : decode cX2_isBefore 59 = .ok (.getfield 18, 3) := by decide +kernel
theorem dX2_isBefore_62 : decode cX2_isBefore 62 = .ok (.iload_n 1, 1) := by decide +kernel
theorem dX2_isBefore_63 : decode cX2_isBefore 63 = .ok (.laload, 1) := by decide +kernel
theorem dX2_isBefore_64 : decode cX2_isBefore 64 = .ok (.lload_n 2, 1) := by decide +kernel
theorem dX2_isBefore_65 : decode cX2_isBefore 65 = .ok (.lcmp, 1) := by decide +kernel
theorem dX2_isBefore_66 : decode cX2_isBefore 66 = .ok (.ifCond .ge 7, 3) := by decide +kernel
theorem dX2_isBefore_69 : decode cX2_isBefore 69 = .ok (.iconst 1, 1) := by decide +kernel
theorem dX2_isBefore_70 : decode cX2_isBefore 70 = .ok (.goto 4, 3) := by decide +kernel
theorem dX2_isBefore_73 : decode cX2_isBefore 73 = .ok (.iconst 0, 1) := by decide +kernel
theorem dX2_isBefore_74 : decode cX2_isBefore 74 = .ok (.ireturn, 1) := by decide +kernel
theorem dX3_faultOf_0 : decode cX3_faultOf 0 = .ok (.lconst 0, 1) := by decide +kernel
theorem dX3_faultOf_1 : decode cX3_faultOf 1 = .ok (.lstore_n 1, 1) := by decide +kernel
theorem dX3_faultOf_2 : decode cX3_faultOf 2 = .ok (.iconst 0, 1) := by decide +kernel
theorem dX3_faultOf_3 : decode cX3_faultOf 3 = .ok (.istore_n 3, 1) := by decide +kernel
theorem dX3_faultOf_4 : decode cX3_faultOf 4 = .ok (.iload_n 3, 1) := by decide +kernel
theorem dX3_faultOf_5 : decode cX3_faultOf 5 = .ok (.aload_n 0, 1) := by decide +kernel
theorem dX3_faultOf_6 : decode cX3_faultOf 6 = .ok (.invokevirtual 11, 3) := by decide +kernel
theorem dX3_faultOf_9 : decode cX3_faultOf 9 = .ok (.if_icmp .ge 29, 3) := by decide +kernel
theorem dX3_faultOf_12 : decode cX3_faultOf 12 = .ok (.lload_n 1, 1) := by decide +kernel
theorem dX3_faultOf_13 : decode cX3_faultOf 13 = .ok (.aload_n 0, 1) := by decide +kernel
theorem dX3_faultOf_14 : decode cX3_faultOf 14 = .ok (.iload_n 3, 1) := by decide +kernel
theorem dX3_faultOf_15 : decode cX3_faultOf 15 = .ok (.invokevirtual 17, 3) := by decide +kernel
theorem dX3_faultOf_18 : decode cX3_faultOf 18 = .ok (.invokestatic 21, 3) := by decide +kernel
theorem dX3_faultOf_21 : decode cX3_faultOf 21 = .ok (.lstore_n 1, 1) := by decide +kernel
theorem dX3_faultOf_22 : decode cX3_faultOf 22 = .ok (.lload_n 1, 1) := by decide +kernel
theorem dX3_faultOf_23 : decode cX3_faultOf 23 = .ok (.ldc2_w 25, 3) := by decide +kernel
theorem dX3_faultOf_26 : decode cX3_faultOf 26 = .ok (.lcmp, 1) := by decide +kernel
theorem dX3_faultOf_27 : decode cX3_faultOf 27 = .ok (.ifCond .ne 5, 3) := by decide +kernel
theorem dX3_faultOf_30 : decode cX3_faultOf 30 = .ok (.iload_n 3, 1) := by decide +kernel
theorem dX3_faultOf_31 : decode cX3_faultOf 31 = .ok (.ireturn, 1) := by decide +kernel
theorem dX3_faultOf_32 : decode cX3_faultOf 32 = .ok (.iinc 3 1, 3) := by decide +kernel
theorem dX3_faultOf_35 : decode cX3_faultOf 35 = .ok (.goto (-31), 3) := by decide +kernel
theorem dX3_faultOf_38 : decode cX3_faultOf 38 = .ok (.lload_n 1, 1) := by decide +kernel
theorem dX3_faultOf_39 : decode cX3_faultOf 39 = .ok (.invokestatic 27, 3) := by decide +kernel
theorem dX3_faultOf_42 : decode cX3_faultOf 42 = .ok (.ifCond .eq 7, 3) := by decide +kernel
theorem dX3_faultOf_45 : decode cX3_faultOf 45 = .ok (.iconst (-1), 1) := by decide +kernel
theorem dX3_faultOf_46 : decode cX3_faultOf 46 = .ok (.goto 7, 3) := by decide +kernel
theorem dX3_faultOf_49 : decode cX3_faultOf 49 = .ok (.aload_n 0, 1) := by decide +kernel
theorem dX3_faultOf_50 : decode cX3_faultOf 50 = .ok (.invokevirtual 11, 3) := by decide +kernel
theorem dX3_faultOf_53 : decode cX3_faultOf 53 = .ok (.ireturn, 1) := by decide +kernel
theorem dX3_isWhole_0 : decode cX3_isWhole 0 = .ok (.lload_n 0, 1) := by decide +kernel
theorem dX3_isWhole_1 : decode cX3_isWhole 1 = .ok (.ldc2_w 31, 3) := by decide +kernel
theorem dX3_isWhole_4 : decode cX3_isWhole 4 = .ok (.lcmp, 1) := by decide +kernel
theorem dX3_isWhole_5 : decode cX3_isWhole 5 = .ok (.ifCond .eq 11, 3) := by decide +kernel
theorem dX3_isWhole_8 : decode cX3_isWhole 8 = .ok (.lload_n 0, 1) := by decide +kernel
theorem dX3_isWhole_9 : decode cX3_isWhole 9 = .ok (.ldc2_w 33, 3) := by decide +kernel
theorem dX3_isWhole_12 : decode cX3_isWhole 12 = .ok (.lcmp, 1) := by decide +kernel
theorem dX3_isWhole_13 : decode cX3_isWhole 13 = .ok (.ifCond .ne 7, 3) := by decide +kernel
theorem dX3_isWhole_16 : decode cX3_isWhole 16 = .ok (.iconst 1, 1) := by decide +kernel
theorem dX3_isWhole_17 : decode cX3_isWhole 17 = .ok (.goto 4, 3) := by decide +kernel
theorem dX3_isWhole_20 : decode cX3_isWhole 20 = .ok (.iconst 0, 1) := by decide +kernel
theorem dX3_isWhole_21 : decode cX3_isWhole 21 = .ok (.ireturn, 1) := by decide +kernel
theorem dX3_followers_0 : decode cX3_followers 0 = .ok (.lload_n 0, 1) := by decide +kernel
theorem dX3_followers_1 : decode cX3_followers 1 = .ok (.ldc2_w 35, 3) := by decide +kernel
theorem dX3_followers_4 : decode cX3_followers 4 = .ok (.land, 1) := by decide +kernel
theorem dX3_followers_5 : decode cX3_followers 5 = .ok (.l2i, 1) := by decide +kernel
theorem dX3_followers_6 : decode cX3_followers 6 = .ok (.tableswitch 65 0 5 #[38, 41, 44, 44, 47, 56], 38) := by decide +kernel
theorem dX3_followers_44 : decode cX3_followers 44 = .ok (.ldc 37, 2) := by decide +kernel
theorem dX3_followers_46 : decode cX3_followers 46 = .ok (.ireturn, 1) := by decide +kernel
theorem dX3_followers_47 : decode cX3_followers 47 = .ok (.ldc 38, 2) := by decide +kernel
theorem dX3_followers_49 : decode cX3_followers 49 = .ok (.ireturn, 1) := by decide +kernel
theorem dX3_followers_50 : decode cX3_followers 50 = .ok (.ldc 39, 2) := by decide +kernel
theorem dX3_followers_52 : decode cX3_followers 52 = .ok (.ireturn, 1) := by decide +kernel
theorem dX3_followers_53 : decode cX3_followers 53 = .ok (.sipush 252, 3) := by decide +kernel
theorem dX3_followers_56 : decode cX3_followers 56 = .ok (.lload_n 0, 1) := by decide +kernel
theorem dX3_followers_57 : decode cX3_followers 57 = .ok (.invokestatic 40, 3) := by decide +kernel
theorem dX3_followers_60 : decode cX3_followers 60 = .ok (.ior, 1) := by decide +kernel
theorem dX3_followers_61 : decode cX3_followers 61 = .ok (.ireturn, 1) := by decide +kernel
theorem dX3_followers_62 : decode cX3_followers 62 = .ok (.sipush 156, 3) := by decide +kernel
theorem dX3_followers_65 : decode cX3_followers 65 = .ok (.lload_n 0, 1) := by decide +kernel
theorem dX3_followers_66 : decode cX3_followers 66 = .ok (.invokestatic 40, 3) := by decide +kernel
theorem dX3_followers_69 : decode cX3_followers 69 = .ok (.ior, 1) := by decide +kernel
theorem dX3_followers_70 : decode cX3_followers 70 = .ok (.ireturn, 1) := by decide +kernel
theorem dX3_followers_71 : decode cX3_followers 71 = .ok (.iconst 0, 1) := by decide +kernel
theorem dX3_followers_72 : decode cX3_followers 72 = .ok (.ireturn, 1) := by decide +kernel
theorem dX3_closer_0 : decode cX3_closer 0 = .ok (.lload_n 0, 1) := by decide +kernel
theorem dX3_closer_1 : decode cX3_closer 1 = .ok (.invokestatic 44, 3) := by decide +kernel
theorem dX3_closer_4 : decode cX3_closer 4 = .ok (.tableswitch 42 1 4 #[32, 32, 34, 38], 32) := by decide +kernel
theorem dX3_closer_36 : decode cX3_closer 36 = .ok (.iconst 2, 1) := by decide +kernel
theorem dX3_closer_37 : decode cX3_closer 37 = .ok (.ireturn, 1) := by decide +kernel
theorem dX3_closer_38 : decode cX3_closer 38 = .ok (.sipush 1024, 3) := by decide +kernel
theorem dX3_closer_41 : decode cX3_closer 41 = .ok (.ireturn, 1) := by decide +kernel
theorem dX3_closer_42 : decode cX3_closer 42 = .ok (.sipush 2048, 3) := by decide +kernel
theorem dX3_closer_45 : decode cX3_closer 45 = .ok (.ireturn, 1) := by decide +kernel
theorem dX3_closer_46 : decode cX3_closer 46 = .ok (.iconst 0, 1) := by decide +kernel
theorem dX3_closer_47 : decode cX3_closer 47 = .ok (.ireturn, 1) := by decide +kernel
theorem dX3_after_0 : decode cX3_after 0 = .ok (.iload_n 2, 1) := by decide +kernel
theorem dX3_after_1 : decode cX3_after 1 = .ok (.invokestatic 47, 3) := by decide +kernel
theorem dX3_after_4 : decode cX3_after 4 = .ok (.ifCond .eq 22, 3) := by decide +kernel
theorem dX3_after_7 : decode cX3_after 7 = .ok (.lload_n 0, 1) := by decide +kernel
theorem dX3_after_8 : decode cX3_after 8 = .ok (.invokestatic 51, 3) := by decide +kernel
theorem dX3_after_11 : decode cX3_after 11 = .ok (.iload_n 2, 1) := by decide +kernel
theorem dX3_after_12 : decode cX3_after 12 = .ok (.ishr, 1) := by decide +kernel
theorem dX3_after_13 : decode cX3_after 13 = .ok (.iconst 1, 1) := by decide +kernel
theorem dX3_after_14 : decode cX3_after 14 = .ok (.iand, 1) := by decide +kernel
theorem dX3_after_15 : decode cX3_after 15 = .ok (.ifCond .eq 11, 3) := by decide +kernel
theorem dX3_after_18 : decode cX3_after 18 = .ok (.lload_n 0, 1) := by decide +kernel
theorem dX3_after_19 : decode cX3_after 19 = .ok (.iload_n 2, 1) := by decide +kernel
theorem dX3_after_20 : decode cX3_after 20 = .ok (.invokestatic 54, 3) := by decide +kernel
theorem dX3_after_23 : decode cX3_after 23 = .ok (.goto 6, 3) := by decide +kernel
theorem dX3_after_26 : decode cX3_after 26 = .ok (.ldc2_w 25, 3) := by decide +kernel
theorem dX3_after_29 : decode cX3_after 29 = .ok (.lreturn, 1) := by decide +kernel
theorem dX3_follow_0 : decode cX3_follow 0 = .ok (.lload_n 0, 1) := by decide +kernel
theorem dX3_follow_1 : decode cX3_follow 1 = .ok (.ldc2_w 35, 3) := by decide +kernel
theorem dX3_follow_4 : decode cX3_follow 4 = .ok (.land, 1) := by decide +kernel
theorem dX3_follow_5 : decode cX3_follow 5 = .ok (.l2i, 1) := by decide +kernel
theorem dX3_follow_6 : decode cX3_follow 6 = .ok (.istore_n 3, 1) := by decide +kernel
theorem dX3_follow_7 : decode cX3_follow 7 = .ok (.iload_n 3, 1) := by decide +kernel
theorem dX3_follow_8 : decode cX3_follow 8 = .ok (.iconst 3, 1) := by decide +kernel
theorem dX3_follow_9 : decode cX3_follow 9 = .ok (.if_icmp .eq 8, 3) := by decide +kernel
theorem dX3_follow_12 : decode cX3_follow 12 = .ok (.iload_n 3, 1) := by decide +kernel
theorem dX3_follow_13 : decode cX3_follow 13 = .ok (.iconst 5, 1) := by decide +kernel
theorem dX3_follow_14 : decode cX3_follow 14 = .ok (.if_icmp .ne 7, 3) := by decide +kernel
theorem dX3_follow_17 : decode cX3_follow 17 = .ok (.iconst 1, 1) := by decide +kernel
theorem dX3_follow_18 : decode cX3_follow 18 = .ok (.goto 4, 3) := by decide +kernel
theorem dX3_follow_21 : decode cX3_follow 21 = .ok (.iconst 0, 1) := by decide +kernel
theorem dX3_follow_22 : decode cX3_follow 22 = .ok (.istore 4, 2) := by decide +kernel
theorem dX3_follow_24 : decode cX3_follow 24 = .ok (.lload_n 0, 1) := by decide +kernel
theorem dX3_follow_25 : decode cX3_follow 25 = .ok (.iconst 3, 1) := by decide +kernel
theorem dX3_follow_26 : decode cX3_follow 26 = .ok (.lshr, 1) := by decide +kernel
theorem dX3_follow_27 : decode cX3_follow 27 = .ok (.lstore 5, 2) := by decide +kernel
theorem dX3_follow_29 : decode cX3_follow 29 = .ok (.iload_n 2, 1) := by decide +kernel
theorem dX3_follow_30 : decode cX3_follow 30 = .ok (.tableswitch 175 0 11 #[62, 83, 105, 105, 105, 122, 122, 131, 131, 138, 151, 166], 62) := by decide +kernel
theorem dX3_follow_92 : decode cX3_follow 92 = .ok (.lload 5, 2) := by decide +kernel
theorem dX3_follow_94 : decode cX3_follow 94 = .ok (.iconst 3, 1) := by decide +kernel
theorem dX3_follow_95 : decode cX3_follow 95 = .ok (.lshl, 1) := by decide +kernel
theorem dX3_follow_96 : decode cX3_follow 96 = .ok (.iload 4, 2) := by decide +kernel
theorem dX3_follow_98 : decode cX3_follow 98 = .ok (.ifCond .eq 7, 3) := by decide +kernel
theorem dX3_follow_101 : decode cX3_follow 101 = .ok (.iconst 2, 1) := by decide +kernel
theorem dX3_follow_102 : decode cX3_follow 102 = .ok (.goto 4, 3) := by decide +kernel
theorem dX3_follow_105 : decode cX3_follow 105 = .ok (.iconst 1, 1) := by decide +kernel
theorem dX3_follow_106 : decode cX3_follow 106 = .ok (.i2l, 1) := by decide +kernel
theorem dX3_follow_107 : decode cX3_follow 107 = .ok (.lor, 1) := by decide +kernel
theorem dX3_follow_108 : decode cX3_follow 108 = .ok (.iconst 3, 1) := by decide +kernel
theorem dX3_follow_109 : decode cX3_follow 109 = .ok (.lshl, 1) := by decide +kernel
theorem dX3_follow_110 : decode cX3_follow 110 = .ok (.lconst 0, 1) := by decide +kernel
theorem dX3_follow_111 : decode cX3_follow 111 = .ok (.lor, 1) := by decide +kernel
theorem dX3_follow_112 : decode cX3_follow 112 = .ok (.lreturn, 1) := by decide +kernel
theorem dX3_follow_113 : decode cX3_follow 113 = .ok (.lload 5, 2) := by decide +kernel
theorem dX3_follow_115 : decode cX3_follow 115 = .ok (.iconst 3, 1) := by decide +kernel
theorem dX3_follow_116 : decode cX3_follow 116 = .ok (.lshr, 1) := by decide +kernel
theorem dX3_follow_117 : decode cX3_follow 117 = .ok (.iconst 3, 1) := by decide +kernel
theorem dX3_follow_118 : decode cX3_follow 118 = .ok (.lshl, 1) := by decide +kernel
theorem dX3_follow_119 : decode cX3_follow 119 = .ok (.lload_n 0, 1) := by decide +kernel
theorem dX3_follow_120 : decode cX3_follow 120 = .ok (.invokestatic 44, 3) := by decide +kernel
theorem dX3_follow_123 : decode cX3_follow 123 = .ok (.iconst 2, 1) := by decide +kernel
theorem dX3_follow_124 : decode cX3_follow 124 = .ok (.if_icmp .ne 7, 3) := by decide +kernel
theorem dX3_follow_127 : decode cX3_follow 127 = .ok (.iconst 5, 1) := by decide +kernel
theorem dX3_follow_128 : decode cX3_follow 128 = .ok (.goto 4, 3) := by decide +kernel
theorem dX3_follow_131 : decode cX3_follow 131 = .ok (.iconst 4, 1) := by decide +kernel
theorem dX3_follow_132 : decode cX3_follow 132 = .ok (.i2l, 1) := by decide +kernel
theorem dX3_follow_133 : decode cX3_follow 133 = .ok (.lor, 1) := by decide +kernel
theorem dX3_follow_134 : decode cX3_follow 134 = .ok (.lreturn, 1) := by decide +kernel
theorem dX3_follow_135 : decode cX3_follow 135 = .ok (.lload 5, 2) := by decide +kernel
theorem dX3_follow_137 : decode cX3_follow 137 = .ok (.iconst 3, 1) := by decide +kernel
theorem dX3_follow_138 : decode cX3_follow 138 = .ok (.lshl, 1) := by decide +kernel
theorem dX3_follow_139 : decode cX3_follow 139 = .ok (.iload 4, 2) := by decide +kernel
theorem dX3_follow_141 : decode cX3_follow 141 = .ok (.ifCond .eq 7, 3) := by decide +kernel
theorem dX3_follow_144 : decode cX3_follow 144 = .ok (.iconst 3, 1) := by decide +kernel
theorem dX3_follow_145 : decode cX3_follow 145 = .ok (.goto 4, 3) := by decide +kernel
theorem dX3_follow_148 : decode cX3_follow 148 = .ok (.iconst 2, 1) := by decide +kernel
theorem dX3_follow_149 : decode cX3_follow 149 = .ok (.i2l, 1) := by decide +kernel
theorem dX3_follow_150 : decode cX3_follow 150 = .ok (.lor, 1) := by decide +kernel
theorem dX3_follow_151 : decode cX3_follow 151 = .ok (.lreturn, 1) := by decide +kernel
theorem dX3_follow_152 : decode cX3_follow 152 = .ok (.lload 5, 2) := by decide +kernel
theorem dX3_follow_154 : decode cX3_follow 154 = .ok (.iconst 3, 1) := by decide +kernel
theorem dX3_follow_155 : decode cX3_follow 155 = .ok (.lshl, 1) := by decide +kernel
theorem dX3_follow_156 : decode cX3_follow 156 = .ok (.ldc2_w 57, 3) := by decide +kernel
theorem dX3_follow_159 : decode cX3_follow 159 = .ok (.lor, 1) := by decide +kernel
theorem dX3_follow_160 : decode cX3_follow 160 = .ok (.lreturn, 1) := by decide +kernel
theorem dX3_follow_161 : decode cX3_follow 161 = .ok (.lload 5, 2) := by decide +kernel
theorem dX3_follow_163 : decode cX3_follow 163 = .ok (.iconst 3, 1) := by decide +kernel
theorem dX3_follow_164 : decode cX3_follow 164 = .ok (.lshl, 1) := by decide +kernel
theorem dX3_follow_165 : decode cX3_follow 165 = .ok (.lconst 1, 1) := by decide +kernel
theorem dX3_follow_166 : decode cX3_follow 166 = .ok (.lor, 1) := by decide +kernel
theorem dX3_follow_167 : decode cX3_follow 167 = .ok (.lreturn, 1) := by decide +kernel
theorem dX3_follow_168 : decode cX3_follow 168 = .ok (.lload 5, 2) := by decide +kernel
theorem dX3_follow_170 : decode cX3_follow 170 = .ok (.iconst 3, 1) := by decide +kernel
theorem dX3_follow_171 : decode cX3_follow 171 = .ok (.lshl, 1) := by decide +kernel
theorem dX3_follow_172 : decode cX3_follow 172 = .ok (.ldc2_w 57, 3) := by decide +kernel
theorem dX3_follow_175 : decode cX3_follow 175 = .ok (.lor, 1) := by decide +kernel
theorem dX3_follow_176 : decode cX3_follow 176 = .ok (.iconst 3, 1) := by decide +kernel
theorem dX3_follow_177 : decode cX3_follow 177 = .ok (.lshl, 1) := by decide +kernel
theorem dX3_follow_178 : decode cX3_follow 178 = .ok (.lconst 0, 1) := by decide +kernel
theorem dX3_follow_179 : decode cX3_follow 179 = .ok (.lor, 1) := by decide +kernel
theorem dX3_follow_180 : decode cX3_follow 180 = .ok (.lreturn, 1) := by decide +kernel
theorem dX3_follow_181 : decode cX3_follow 181 = .ok (.lload 5, 2) := by decide +kernel
theorem dX3_follow_183 : decode cX3_follow 183 = .ok (.iconst 3, 1) := by decide +kernel
theorem dX3_follow_184 : decode cX3_follow 184 = .ok (.lshr, 1) := by decide +kernel
theorem dX3_follow_185 : decode cX3_follow 185 = .ok (.iconst 3, 1) := by decide +kernel
theorem dX3_follow_186 : decode cX3_follow 186 = .ok (.lshl, 1) := by decide +kernel
theorem dX3_follow_187 : decode cX3_follow 187 = .ok (.ldc2_w 31, 3) := by decide +kernel
theorem dX3_follow_190 : decode cX3_follow 190 = .ok (.lor, 1) := by decide +kernel
theorem dX3_follow_191 : decode cX3_follow 191 = .ok (.iconst 3, 1) := by decide +kernel
theorem dX3_follow_192 : decode cX3_follow 192 = .ok (.lshl, 1) := by decide +kernel
theorem dX3_follow_193 : decode cX3_follow 193 = .ok (.lconst 0, 1) := by decide +kernel
theorem dX3_follow_194 : decode cX3_follow 194 = .ok (.lor, 1) := by decide +kernel
theorem dX3_follow_195 : decode cX3_follow 195 = .ok (.lreturn, 1) := by decide +kernel
theorem dX3_follow_196 : decode cX3_follow 196 = .ok (.lload 5, 2) := by decide +kernel
theorem dX3_follow_198 : decode cX3_follow 198 = .ok (.iconst 3, 1) := by decide +kernel
theorem dX3_follow_199 : decode cX3_follow 199 = .ok (.lshr, 1) := by decide +kernel
theorem dX3_follow_200 : decode cX3_follow 200 = .ok (.iconst 3, 1) := by decide +kernel
theorem dX3_follow_201 : decode cX3_follow 201 = .ok (.lshl, 1) := by decide +kernel
theorem dX3_follow_202 : decode cX3_follow 202 = .ok (.lconst 0, 1) := by decide +kernel
theorem dX3_follow_203 : decode cX3_follow 203 = .ok (.lor, 1) := by decide +kernel
theorem dX3_follow_204 : decode cX3_follow 204 = .ok (.lreturn, 1) := by decide +kernel
theorem dX3_follow_205 : decode cX3_follow 205 = .ok (.lload 5, 2) := by decide +kernel
theorem dX3_follow_207 : decode cX3_follow 207 = .ok (.iconst 3, 1) := by decide +kernel
theorem dX3_follow_208 : decode cX3_follow 208 = .ok (.lshl, 1) := by decide +kernel
theorem dX3_follow_209 : decode cX3_follow 209 = .ok (.iload 4, 2) := by decide +kernel
theorem dX3_follow_211 : decode cX3_follow 211 = .ok (.ifCond .eq 7, 3) := by decide +kernel
theorem dX3_follow_214 : decode cX3_follow 214 = .ok (.iconst 5, 1) := by decide +kernel
theorem dX3_follow_215 : decode cX3_follow 215 = .ok (.goto 4, 3) := by decide +kernel
theorem dX3_follow_218 : decode cX3_follow 218 = .ok (.iconst 4, 1) := by decide +kernel
theorem dX3_follow_219 : decode cX3_follow 219 = .ok (.i2l, 1) := by decide +kernel
theorem dX3_follow_220 : decode cX3_follow 220 = .ok (.lor, 1) := by decide +kernel
theorem dX3_follow_221 : decode cX3_follow 221 = .ok (.lreturn, 1) := by decide +kernel
theorem dX3_innermost_0 : decode cX3_innermost 0 = .ok (.lload_n 0, 1) := by decide +kernel
theorem dX3_innermost_1 : decode cX3_innermost 1 = .ok (.iconst 3, 1) := by decide +kernel
theorem dX3_innermost_2 : decode cX3_innermost 2 = .ok (.lshr, 1) := by decide +kernel
theorem dX3_innermost_3 : decode cX3_innermost 3 = .ok (.ldc2_w 35, 3) := by decide +kernel
theorem dX3_innermost_6 : decode cX3_innermost 6 = .ok (.land, 1) := by decide +kernel
theorem dX3_innermost_7 : decode cX3_innermost 7 = .ok (.l2i, 1) := by decide +kernel
theorem dX3_innermost_8 : decode cX3_innermost 8 = .ok (.ireturn, 1) := by decide +kernel
theorem dX4_init_0 : decode cX4_init 0 = .ok (.aload_n 0, 1) := by decide +kernel
theorem dX4_init_1 : decode cX4_init 1 = .ok (.invokespecial 3, 3) := by decide +kernel
theorem dX4_init_4 : decode cX4_init 4 = .ok (.aload_n 0, 1) := by decide +kernel
theorem dX4_init_5 : decode cX4_init 5 = .ok (.bipush 12, 2) := by decide +kernel
theorem dX4_init_7 : decode cX4_init 7 = .ok (.newarray .int, 2) := by decide +kernel
theorem dX4_init_9 : decode cX4_init 9 = .ok (.putfield 9, 3) := by decide +kernel
theorem dX4_init_12 : decode cX4_init 12 = .ok (.aload_n 0, 1) := by decide +kernel
theorem dX4_init_13 : decode cX4_init 13 = .ok (.iconst 0, 1) := by decide +kernel
theorem dX4_init_14 : decode cX4_init 14 = .ok (.putfield 15, 3) := by decide +kernel
theorem dX4_init_17 : decode cX4_init 17 = .ok (.return_, 1) := by decide +kernel
theorem dX4_size_0 : decode cX4_size 0 = .ok (.aload_n 0, 1) := by decide +kernel
theorem dX4_size_1 : decode cX4_size 1 = .ok (.getfield 15, 3) := by decide +kernel
theorem dX4_size_4 : decode cX4_size 4 = .ok (.ireturn, 1) := by decide +kernel
theorem dX4_at_0 : decode cX4_at 0 = .ok (.iload_n 1, 1) := by decide +kernel
theorem dX4_at_1 : decode cX4_at 1 = .ok (.ifCond .lt 20, 3) := by decide +kernel
theorem dX4_at_4 : decode cX4_at 4 = .ok (.iload_n 1, 1) := by decide +kernel
theorem dX4_at_5 : decode cX4_at 5 = .ok (.aload_n 0, 1) := by decide +kernel
theorem dX4_at_6 : decode cX4_at 6 = .ok (.getfield 15, 3) := by decide +kernel
theorem dX4_at_9 : decode cX4_at 9 = .ok (.if_icmp .ge 12, 3) := by decide +kernel
theorem dX4_at_12 : decode cX4_at 12 = .ok (.aload_n 0, 1) := by decide +kernel
theorem dX4_at_13 : decode cX4_at 13 = .ok (.getfield 9, 3) := by decide +kernel
theorem dX4_at_16 : decode cX4_at 16 = .ok (.iload_n 1, 1) := by decide +kernel
theorem dX4_at_17 : decode cX4_at 17 = .ok (.iaload, 1) := by decide +kernel
theorem dX4_at_18 : decode cX4_at 18 = .ok (.goto 4, 3) := by decide +kernel
theorem dX4_at_21 : decode cX4_at 21 = .ok (.iconst (-1), 1) := by decide +kernel
theorem dX4_at_22 : decode cX4_at 22 = .ok (.ireturn, 1) := by decide +kernel
theorem dX4_add_0 : decode cX4_add 0 = .ok (.aload_n 0, 1) := by decide +kernel
theorem dX4_add_1 : decode cX4_add 1 = .ok (.getfield 15, 3) := by decide +kernel
theorem dX4_add_4 : decode cX4_add 4 = .ok (.bipush 12, 2) := by decide +kernel
theorem dX4_add_6 : decode cX4_add 6 = .ok (.if_icmp .ge 23, 3) := by decide +kernel
theorem dX4_add_9 : decode cX4_add 9 = .ok (.aload_n 0, 1) := by decide +kernel
theorem dX4_add_10 : decode cX4_add 10 = .ok (.getfield 9, 3) := by decide +kernel
theorem dX4_add_13 : decode cX4_add 13 = .ok (.aload_n 0, 1) := by decide +kernel
theorem dX4_add_14 : decode cX4_add 14 = .ok (.getfield 15, 3) := by decide +kernel
theorem dX4_add_17 : decode cX4_add 17 = .ok (.iload_n 1, 1) := by decide +kernel
theorem dX4_add_18 : decode cX4_add 18 = .ok (.iastore, 1) := by decide +kernel
theorem dX4_add_19 : decode cX4_add 19 = .ok (.aload_n 0, 1) := by decide +kernel
theorem dX4_add_20 : decode cX4_add 20 = .ok (.dup, 1) := by decide +kernel
theorem dX4_add_21 : decode cX4_add 21 = .ok (.getfield 15, 3) := by decide +kernel
theorem dX4_add_24 : decode cX4_add 24 = .ok (.iconst 1, 1) := by decide +kernel
theorem dX4_add_25 : decode cX4_add 25 = .ok (.iadd, 1) := by decide +kernel
theorem dX4_add_26 : decode cX4_add 26 = .ok (.putfield 15, 3) := by decide +kernel
theorem dX4_add_29 : decode cX4_add 29 = .ok (.return_, 1) := by decide +kernel
theorem dX4_replace_0 : decode cX4_replace 0 = .ok (.iload_n 1, 1) := by decide +kernel
theorem dX4_replace_1 : decode cX4_replace 1 = .ok (.ifCond .lt 18, 3) := by decide +kernel
theorem dX4_replace_4 : decode cX4_replace 4 = .ok (.iload_n 1, 1) := by decide +kernel
theorem dX4_replace_5 : decode cX4_replace 5 = .ok (.aload_n 0, 1) := by decide +kernel
theorem dX4_replace_6 : decode cX4_replace 6 = .ok (.getfield 15, 3) := by decide +kernel
theorem dX4_replace_9 : decode cX4_replace 9 = .ok (.if_icmp .ge 10, 3) := by decide +kernel
theorem dX4_replace_12 : decode cX4_replace 12 = .ok (.aload_n 0, 1) := by decide +kernel
theorem dX4_replace_13 : decode cX4_replace 13 = .ok (.getfield 9, 3) := by decide +kernel
theorem dX4_replace_16 : decode cX4_replace 16 = .ok (.iload_n 1, 1) := by decide +kernel
theorem dX4_replace_17 : decode cX4_replace 17 = .ok (.iload_n 2, 1) := by decide +kernel
theorem dX4_replace_18 : decode cX4_replace 18 = .ok (.iastore, 1) := by decide +kernel
theorem dX4_replace_19 : decode cX4_replace 19 = .ok (.return_, 1) := by decide +kernel
theorem dX4_removeAt_0 : decode cX4_removeAt 0 = .ok (.iload_n 1, 1) := by decide +kernel
theorem dX4_removeAt_1 : decode cX4_removeAt 1 = .ok (.ifCond .lt 53, 3) := by decide +kernel
theorem dX4_removeAt_4 : decode cX4_removeAt 4 = .ok (.iload_n 1, 1) := by decide +kernel
theorem dX4_removeAt_5 : decode cX4_removeAt 5 = .ok (.aload_n 0, 1) := by decide +kernel
theorem dX4_removeAt_6 : decode cX4_removeAt 6 = .ok (.getfield 15, 3) := by decide +kernel
theorem dX4_removeAt_9 : decode cX4_removeAt 9 = .ok (.if_icmp .ge 45, 3) := by decide +kernel
theorem dX4_removeAt_12 : decode cX4_removeAt 12 = .ok (.iload_n 1, 1) := by decide +kernel
theorem dX4_removeAt_13 : decode cX4_removeAt 13 = .ok (.istore_n 2, 1) := by decide +kernel
theorem dX4_removeAt_14 : decode cX4_removeAt 14 = .ok (.iload_n 2, 1) := by decide +kernel
theorem dX4_removeAt_15 : decode cX4_removeAt 15 = .ok (.iconst 1, 1) := by decide +kernel
theorem dX4_removeAt_16 : decode cX4_removeAt 16 = .ok (.iadd, 1) := by decide +kernel
theorem dX4_removeAt_17 : decode cX4_removeAt 17 = .ok (.aload_n 0, 1) := by decide +kernel
theorem dX4_removeAt_18 : decode cX4_removeAt 18 = .ok (.getfield 15, 3) := by decide +kernel
theorem dX4_removeAt_21 : decode cX4_removeAt 21 = .ok (.if_icmp .ge 23, 3) := by decide +kernel
theorem dX4_removeAt_24 : decode cX4_removeAt 24 = .ok (.aload_n 0, 1) := by decide +kernel
theorem dX4_removeAt_25 : decode cX4_removeAt 25 = .ok (.getfield 9, 3) := by decide +kernel
theorem dX4_removeAt_28 : decode cX4_removeAt 28 = .ok (.iload_n 2, 1) := by decide +kernel
theorem dX4_removeAt_29 : decode cX4_removeAt 29 = .ok (.aload_n 0, 1) := by decide +kernel
theorem dX4_removeAt_30 : decode cX4_removeAt 30 = .ok (.getfield 9, 3) := by decide +kernel
theorem dX4_removeAt_33 : decode cX4_removeAt 33 = .ok (.iload_n 2, 1) := by decide +kernel
theorem dX4_removeAt_34 : decode cX4_removeAt 34 = .ok (.iconst 1, 1) := by decide +kernel
theorem dX4_removeAt_35 : decode cX4_removeAt 35 = .ok (.iadd, 1) := by decide +kernel
theorem dX4_removeAt_36 : decode cX4_removeAt 36 = .ok (.iaload, 1) := by decide +kernel
theorem dX4_removeAt_37 : decode cX4_removeAt 37 = .ok (.iastore, 1) := by decide +kernel
theorem dX4_removeAt_38 : decode cX4_removeAt 38 = .ok (.iinc 2 1, 3) := by decide +kernel
theorem dX4_removeAt_41 : decode cX4_removeAt 41 = .ok (.goto (-27), 3) := by decide +kernel
theorem dX4_removeAt_44 : decode cX4_removeAt 44 = .ok (.aload_n 0, 1) := by decide +kernel
theorem dX4_removeAt_45 : decode cX4_removeAt 45 = .ok (.dup, 1) := by decide +kernel
theorem dX4_removeAt_46 : decode cX4_removeAt 46 = .ok (.getfield 15, 3) := by decide +kernel
theorem dX4_removeAt_49 : decode cX4_removeAt 49 = .ok (.iconst 1, 1) := by decide +kernel
theorem dX4_removeAt_50 : decode cX4_removeAt 50 = .ok (.isub, 1) := by decide +kernel
theorem dX4_removeAt_51 : decode cX4_removeAt 51 = .ok (.putfield 15, 3) := by decide +kernel
theorem dX4_removeAt_54 : decode cX4_removeAt 54 = .ok (.return_, 1) := by decide +kernel
theorem dX4_shorten_0 : decode cX4_shorten 0 = .ok (.iload_n 1, 1) := by decide +kernel
theorem dX4_shorten_1 : decode cX4_shorten 1 = .ok (.ifCond .lt 16, 3) := by decide +kernel
theorem dX4_shorten_4 : decode cX4_shorten 4 = .ok (.iload_n 1, 1) := by decide +kernel
theorem dX4_shorten_5 : decode cX4_shorten 5 = .ok (.aload_n 0, 1) := by decide +kernel
theorem dX4_shorten_6 : decode cX4_shorten 6 = .ok (.getfield 15, 3) := by decide +kernel
theorem dX4_shorten_9 : decode cX4_shorten 9 = .ok (.if_icmp .ge 8, 3) := by decide +kernel
theorem dX4_shorten_12 : decode cX4_shorten 12 = .ok (.aload_n 0, 1) := by decide +kernel
theorem dX4_shorten_13 : decode cX4_shorten 13 = .ok (.iload_n 1, 1) := by decide +kernel
theorem dX4_shorten_14 : decode cX4_shorten 14 = .ok (.putfield 15, 3) := by decide +kernel
theorem dX4_shorten_17 : decode cX4_shorten 17 = .ok (.return_, 1) := by decide +kernel
theorem dX5_init_0 : decode cX5_init 0 = .ok (.aload_n 0, 1) := by decide +kernel
theorem dX5_init_1 : decode cX5_init 1 = .ok (.invokespecial 3, 3) := by decide +kernel
theorem dX5_init_4 : decode cX5_init 4 = .ok (.aload_n 0, 1) := by decide +kernel
theorem dX5_init_5 : decode cX5_init 5 = .ok (.new 9, 3) := by decide +kernel
theorem dX5_init_8 : decode cX5_init 8 = .ok (.dup, 1) := by decide +kernel
theorem dX5_init_9 : decode cX5_init 9 = .ok (.invokespecial 11, 3) := by decide +kernel
theorem dX5_init_12 : decode cX5_init 12 = .ok (.putfield 12, 3) := by decide +kernel
theorem dX5_init_15 : decode cX5_init 15 = .ok (.aload_n 0, 1) := by decide +kernel
theorem dX5_init_16 : decode cX5_init 16 = .ok (.bipush 10, 2) := by decide +kernel
theorem dX5_init_18 : decode cX5_init 18 = .ok (.newarray .int, 2) := by decide +kernel
theorem dX5_init_20 : decode cX5_init 20 = .ok (.putfield 18, 3) := by decide +kernel
theorem dX5_init_23 : decode cX5_init 23 = .ok (.aload_n 0, 1) := by decide +kernel
theorem dX5_init_24 : decode cX5_init 24 = .ok (.sipush 143, 3) := by decide +kernel
theorem dX5_init_27 : decode cX5_init 27 = .ok (.newarray .int, 2) := by decide +kernel
theorem dX5_init_29 : decode cX5_init 29 = .ok (.putfield 22, 3) := by decide +kernel
theorem dX5_init_32 : decode cX5_init 32 = .ok (.aload_n 0, 1) := by decide +kernel
theorem dX5_init_33 : decode cX5_init 33 = .ok (.iconst 0, 1) := by decide +kernel
theorem dX5_init_34 : decode cX5_init 34 = .ok (.putfield 25, 3) := by decide +kernel
theorem dX5_init_37 : decode cX5_init 37 = .ok (.aload_n 0, 1) := by decide +kernel
theorem dX5_init_38 : decode cX5_init 38 = .ok (.iconst 0, 1) := by decide +kernel
theorem dX5_init_39 : decode cX5_init 39 = .ok (.putfield 29, 3) := by decide +kernel
theorem dX5_init_42 : decode cX5_init 42 = .ok (.iconst 0, 1) := by decide +kernel
theorem dX5_init_43 : decode cX5_init 43 = .ok (.istore_n 1, 1) := by decide +kernel
theorem dX5_init_44 : decode cX5_init 44 = .ok (.iload_n 1, 1) := by decide +kernel
theorem dX5_init_45 : decode cX5_init 45 = .ok (.aload_n 0, 1) := by decide +kernel
theorem dX5_init_46 : decode cX5_init 46 = .ok (.getfield 22, 3) := by decide +kernel
theorem dX5_init_49 : decode cX5_init 49 = .ok (.arraylength, 1) := by decide +kernel
theorem dX5_init_50 : decode cX5_init 50 = .ok (.if_icmp .ge 17, 3) := by decide +kernel
theorem dX5_init_53 : decode cX5_init 53 = .ok (.aload_n 0, 1) := by decide +kernel
theorem dX5_init_54 : decode cX5_init 54 = .ok (.getfield 22, 3) := by decide +kernel
theorem dX5_init_57 : decode cX5_init 57 = .ok (.iload_n 1, 1) := by decide +kernel
theorem dX5_init_58 : decode cX5_init 58 = .ok (.bipush 99, 2) := by decide +kernel
theorem dX5_init_60 : decode cX5_init 60 = .ok (.iastore, 1) := by decide +kernel
theorem dX5_init_61 : decode cX5_init 61 = .ok (.iinc 1 1, 3) := by decide +kernel
theorem dX5_init_64 : decode cX5_init 64 = .ok (.goto (-20), 3) := by decide +kernel
theorem dX5_init_67 : decode cX5_init 67 = .ok (.iconst 0, 1) := by decide +kernel
theorem dX5_init_68 : decode cX5_init 68 = .ok (.istore_n 1, 1) := by decide +kernel
theorem dX5_init_69 : decode cX5_init 69 = .ok (.iload_n 1, 1) := by decide +kernel
theorem dX5_init_70 : decode cX5_init 70 = .ok (.iconst 2, 1) := by decide +kernel
theorem dX5_init_71 : decode cX5_init 71 = .ok (.if_icmp .gt 16, 3) := by decide +kernel
theorem dX5_init_74 : decode cX5_init 74 = .ok (.aload_n 0, 1) := by decide +kernel
theorem dX5_init_75 : decode cX5_init 75 = .ok (.getfield 22, 3) := by decide +kernel
theorem dX5_init_78 : decode cX5_init 78 = .ok (.iload_n 1, 1) := by decide +kernel
theorem dX5_init_79 : decode cX5_init 79 = .ok (.iload_n 1, 1) := by decide +kernel
theorem dX5_init_80 : decode cX5_init 80 = .ok (.iastore, 1) := by decide +kernel
theorem dX5_init_81 : decode cX5_init 81 = .ok (.iinc 1 1, 3) := by decide +kernel
theorem dX5_init_84 : decode cX5_init 84 = .ok (.goto (-15), 3) := by decide +kernel
theorem dX5_init_87 : decode cX5_init 87 = .ok (.return_, 1) := by decide +kernel
theorem dX5_find_0 : decode cX5_find 0 = .ok (.aload_n 0, 1) := by decide +kernel
theorem dX5_find_1 : decode cX5_find 1 = .ok (.aload_n 1, 1) := by decide +kernel
theorem dX5_find_2 : decode cX5_find 2 = .ok (.invokevirtual 32, 3) := by decide +kernel
theorem dX5_find_5 : decode cX5_find 5 = .ok (.bipush 10, 2) := by decide +kernel
theorem dX5_find_7 : decode cX5_find 7 = .ok (.invokestatic 36, 3) := by decide +kernel
theorem dX5_find_10 : decode cX5_find 10 = .ok (.putfield 25, 3) := by decide +kernel
theorem dX5_find_13 : decode cX5_find 13 = .ok (.iconst 0, 1) := by decide +kernel
theorem dX5_find_14 : decode cX5_find 14 = .ok (.istore 5, 2) := by decide +kernel
theorem dX5_find_16 : decode cX5_find 16 = .ok (.iload 5, 2) := by decide +kernel
theorem dX5_find_18 : decode cX5_find 18 = .ok (.aload_n 0, 1) := by decide +kernel
theorem dX5_find_19 : decode cX5_find 19 = .ok (.getfield 25, 3) := by decide +kernel
theorem dX5_find_22 : decode cX5_find 22 = .ok (.if_icmp .ge 22, 3) := by decide +kernel
theorem dX5_find_25 : decode cX5_find 25 = .ok (.aload_n 0, 1) := by decide +kernel
theorem dX5_find_26 : decode cX5_find 26 = .ok (.getfield 18, 3) := by decide +kernel
theorem dX5_find_29 : decode cX5_find 29 = .ok (.iload 5, 2) := by decide +kernel
theorem dX5_find_31 : decode cX5_find 31 = .ok (.aload_n 1, 1) := by decide +kernel
theorem dX5_find_32 : decode cX5_find 32 = .ok (.iload 5, 2) := by decide +kernel
theorem dX5_find_34 : decode cX5_find 34 = .ok (.invokevirtual 42, 3) := by decide +kernel
theorem dX5_find_37 : decode cX5_find 37 = .ok (.iastore, 1) := by decide +kernel
theorem dX5_find_38 : decode cX5_find 38 = .ok (.iinc 5 1, 3) := by decide +kernel
theorem dX5_find_41 : decode cX5_find 41 = .ok (.goto (-25), 3) := by decide +kernel
theorem dX5_find_44 : decode cX5_find 44 = .ok (.aload_n 0, 1) := by decide +kernel
theorem dX5_find_45 : decode cX5_find 45 = .ok (.iload_n 2, 1) := by decide +kernel
theorem dX5_find_46 : decode cX5_find 46 = .ok (.putfield 29, 3) := by decide +kernel
theorem dX5_find_49 : decode cX5_find 49 = .ok (.aload_n 0, 1) := by decide +kernel
theorem dX5_find_50 : decode cX5_find 50 = .ok (.getfield 12, 3) := by decide +kernel
theorem dX5_find_53 : decode cX5_find 53 = .ok (.iconst 0, 1) := by decide +kernel
theorem dX5_find_54 : decode cX5_find 54 = .ok (.invokevirtual 46, 3) := by decide +kernel
theorem dX5_find_57 : decode cX5_find 57 = .ok (.aload_n 0, 1) := by decide +kernel
theorem dX5_find_58 : decode cX5_find 58 = .ok (.iconst 0, 1) := by decide +kernel
theorem dX5_find_59 : decode cX5_find 59 = .ok (.lconst 0, 1) := by decide +kernel
theorem dX5_find_60 : decode cX5_find 60 = .ok (.aload_n 3, 1) := by decide +kernel
theorem dX5_find_61 : decode cX5_find 61 = .ok (.aload 4, 2) := by decide +kernel
theorem dX5_find_63 : decode cX5_find 63 = .ok (.invokevirtual 52, 3) := by decide +kernel
theorem dX5_find_66 : decode cX5_find 66 = .ok (.return_, 1) := by decide +kernel
theorem dX5_grow_0 : decode cX5_grow 0 = .ok (.iload_n 1, 1) := by decide +kernel
theorem dX5_grow_1 : decode cX5_grow 1 = .ok (.ifCond .lt 17, 3) := by decide +kernel
theorem dX5_grow_4 : decode cX5_grow 4 = .ok (.iload_n 1, 1) := by decide +kernel
theorem dX5_grow_5 : decode cX5_grow 5 = .ok (.bipush 12, 2) := by decide +kernel
theorem dX5_grow_7 : decode cX5_grow 7 = .ok (.if_icmp .gt 11, 3) := by decide +kernel
theorem dX5_grow_10 : decode cX5_grow 10 = .ok (.aload 5, 2) := by decide +kernel
theorem dX5_grow_12 : decode cX5_grow 12 = .ok (.invokevirtual 56, 3) := by decide +kernel
theorem dX5_grow_15 : decode cX5_grow 15 = .ok (.ifCond .eq 4, 3) := by decide +kernel
theorem dX5_grow_18 : decode cX5_grow 18 = .ok (.return_, 1) := by decide +kernel
theorem dX5_grow_19 : decode cX5_grow 19 = .ok (.aload_n 0, 1) := by decide +kernel
theorem dX5_grow_20 : decode cX5_grow 20 = .ok (.getfield 22, 3) := by decide +kernel
theorem dX5_grow_23 : decode cX5_grow 23 = .ok (.iload_n 1, 1) := by decide +kernel
theorem dX5_grow_24 : decode cX5_grow 24 = .ok (.bipush 11, 2) := by decide +kernel
theorem dX5_grow_26 : decode cX5_grow 26 = .ok (.imul, 1) := by decide +kernel
theorem dX5_grow_27 : decode cX5_grow 27 = .ok (.aload_n 0, 1) := by decide +kernel
theorem dX5_grow_28 : decode cX5_grow 28 = .ok (.getfield 25, 3) := by decide +kernel
theorem dX5_grow_31 : decode cX5_grow 31 = .ok (.iadd, 1) := by decide +kernel
theorem dX5_grow_32 : decode cX5_grow 32 = .ok (.iaload, 1) := by decide +kernel
theorem dX5_grow_33 : decode cX5_grow 33 = .ok (.aload_n 0, 1) := by decide +kernel
theorem dX5_grow_34 : decode cX5_grow 34 = .ok (.getfield 29, 3) := by decide +kernel
theorem dX5_grow_37 : decode cX5_grow 37 = .ok (.if_icmp .ne 31, 3) := by decide +kernel
theorem dX5_grow_40 : decode cX5_grow 40 = .ok (.lload_n 2, 1) := by decide +kernel
theorem dX5_grow_41 : decode cX5_grow 41 = .ok (.invokestatic 62, 3) := by decide +kernel
theorem dX5_grow_44 : decode cX5_grow 44 = .ok (.ifCond .eq 24, 3) := by decide +kernel
theorem dX5_grow_47 : decode cX5_grow 47 = .ok (.aload 4, 2) := by decide +kernel
theorem dX5_grow_49 : decode cX5_grow 49 = .ok (.aload_n 0, 1) := by decide +kernel
theorem dX5_grow_50 : decode cX5_grow 50 = .ok (.getfield 12, 3) := by decide +kernel
theorem dX5_grow_53 : decode cX5_grow 53 = .ok (.invokevirtual 66, 3) := by decide +kernel
theorem dX5_grow_56 : decode cX5_grow 56 = .ok (.ifCond .eq 12, 3) := by decide +kernel
theorem dX5_grow_59 : decode cX5_grow 59 = .ok (.aload 5, 2) := by decide +kernel
theorem dX5_grow_61 : decode cX5_grow 61 = .ok (.aload_n 0, 1) := by decide +kernel
theorem dX5_grow_62 : decode cX5_grow 62 = .ok (.getfield 12, 3) := by decide +kernel
theorem dX5_grow_65 : decode cX5_grow 65 = .ok (.invokevirtual 72, 3) := by decide +kernel
theorem dX5_grow_68 : decode cX5_grow 68 = .ok (.iload_n 1, 1) := by decide +kernel
theorem dX5_grow_69 : decode cX5_grow 69 = .ok (.bipush 12, 2) := by decide +kernel
theorem dX5_grow_71 : decode cX5_grow 71 = .ok (.if_icmp .ge 16, 3) := by decide +kernel
theorem dX5_grow_74 : decode cX5_grow 74 = .ok (.lload_n 2, 1) := by decide +kernel
theorem dX5_grow_75 : decode cX5_grow 75 = .ok (.invokestatic 76, 3) := by decide +kernel
theorem dX5_grow_78 : decode cX5_grow 78 = .ok (.aload_n 0, 1) := by decide +kernel
theorem dX5_grow_79 : decode cX5_grow 79 = .ok (.iload_n 1, 1) := by decide +kernel
theorem dX5_grow_80 : decode cX5_grow 80 = .ok (.invokevirtual 80, 3) := by decide +kernel
theorem dX5_grow_83 : decode cX5_grow 83 = .ok (.iand, 1) := by decide +kernel
theorem dX5_grow_84 : decode cX5_grow 84 = .ok (.goto 4, 3) := by decide +kernel
theorem dX5_grow_87 : decode cX5_grow 87 = .ok (.iconst 0, 1) := by decide +kernel
theorem dX5_grow_88 : decode cX5_grow 88 = .ok (.istore 6, 2) := by decide +kernel
theorem dX5_grow_90 : decode cX5_grow 90 = .ok (.iconst 0, 1) := by decide +kernel
theorem dX5_grow_91 : decode cX5_grow 91 = .ok (.istore 7, 2) := by decide +kernel
theorem dX5_grow_93 : decode cX5_grow 93 = .ok (.iload 7, 2) := by decide +kernel
theorem dX5_grow_95 : decode cX5_grow 95 = .ok (.bipush 28, 2) := by decide +kernel
theorem dX5_grow_97 : decode cX5_grow 97 = .ok (.if_icmp .ge 70, 3) := by decide +kernel
theorem dX5_grow_100 : decode cX5_grow 100 = .ok (.iload 6, 2) := by decide +kernel
theorem dX5_grow_102 : decode cX5_grow 102 = .ok (.ifCond .eq 65, 3) := by decide +kernel
theorem dX5_grow_105 : decode cX5_grow 105 = .ok (.iload 6, 2) := by decide +kernel
theorem dX5_grow_107 : decode cX5_grow 107 = .ok (.iconst 1, 1) := by decide +kernel
theorem dX5_grow_108 : decode cX5_grow 108 = .ok (.iand, 1) := by decide +kernel
theorem dX5_grow_109 : decode cX5_grow 109 = .ok (.ifCond .eq 46, 3) := by decide +kernel
theorem dX5_grow_112 : decode cX5_grow 112 = .ok (.aload_n 0, 1) := by decide +kernel
theorem dX5_grow_113 : decode cX5_grow 113 = .ok (.getfield 12, 3) := by decide +kernel
theorem dX5_grow_116 : decode cX5_grow 116 = .ok (.iload_n 1, 1) := by decide +kernel
theorem dX5_grow_117 : decode cX5_grow 117 = .ok (.invokevirtual 46, 3) := by decide +kernel
theorem dX5_grow_120 : decode cX5_grow 120 = .ok (.aload_n 0, 1) := by decide +kernel
theorem dX5_grow_121 : decode cX5_grow 121 = .ok (.getfield 12, 3) := by decide +kernel
theorem dX5_grow_124 : decode cX5_grow 124 = .ok (.iload 7, 2) := by decide +kernel
theorem dX5_grow_126 : decode cX5_grow 126 = .ok (.invokevirtual 83, 3) := by decide +kernel
theorem dX5_grow_129 : decode cX5_grow 129 = .ok (.aload_n 0, 1) := by decide +kernel
theorem dX5_grow_130 : decode cX5_grow 130 = .ok (.iload_n 1, 1) := by decide +kernel
theorem dX5_grow_131 : decode cX5_grow 131 = .ok (.iconst 1, 1) := by decide +kernel
theorem dX5_grow_132 : decode cX5_grow 132 = .ok (.iadd, 1) := by decide +kernel
theorem dX5_grow_133 : decode cX5_grow 133 = .ok (.iload 7, 2) := by decide +kernel
theorem dX5_grow_135 : decode cX5_grow 135 = .ok (.invokevirtual 85, 3) := by decide +kernel
theorem dX5_grow_138 : decode cX5_grow 138 = .ok (.aload_n 0, 1) := by decide +kernel
theorem dX5_grow_139 : decode cX5_grow 139 = .ok (.iload_n 1, 1) := by decide +kernel
theorem dX5_grow_140 : decode cX5_grow 140 = .ok (.iconst 1, 1) := by decide +kernel
theorem dX5_grow_141 : decode cX5_grow 141 = .ok (.iadd, 1) := by decide +kernel
theorem dX5_grow_142 : decode cX5_grow 142 = .ok (.lload_n 2, 1) := by decide +kernel
theorem dX5_grow_143 : decode cX5_grow 143 = .ok (.iload 7, 2) := by decide +kernel
theorem dX5_grow_145 : decode cX5_grow 145 = .ok (.invokestatic 89, 3) := by decide +kernel
theorem dX5_grow_148 : decode cX5_grow 148 = .ok (.aload 4, 2) := by decide +kernel
theorem dX5_grow_150 : decode cX5_grow 150 = .ok (.aload 5, 2) := by decide +kernel
theorem dX5_grow_152 : decode cX5_grow 152 = .ok (.invokevirtual 52, 3) := by decide +kernel
theorem dX5_grow_155 : decode cX5_grow 155 = .ok (.iload 6, 2) := by decide +kernel
theorem dX5_grow_157 : decode cX5_grow 157 = .ok (.iconst 1, 1) := by decide +kernel
theorem dX5_grow_158 : decode cX5_grow 158 = .ok (.iushr, 1) := by decide +kernel
theorem dX5_grow_159 : decode cX5_grow 159 = .ok (.istore 6, 2) := by decide +kernel
theorem dX5_grow_161 : decode cX5_grow 161 = .ok (.iinc 7 1, 3) := by decide +kernel
theorem dX5_grow_164 : decode cX5_grow 164 = .ok (.goto (-71), 3) := by decide +kernel
theorem dX5_grow_167 : decode cX5_grow 167 = .ok (.return_, 1) := by decide +kernel
theorem dX5_affordable_0 : decode cX5_affordable 0 = .ok (.iconst 0, 1) := by decide +kernel
theorem dX5_affordable_1 : decode cX5_affordable 1 = .ok (.istore_n 2, 1) := by decide +kernel
theorem dX5_affordable_2 : decode cX5_affordable 2 = .ok (.iconst 0, 1) := by decide +kernel
theorem dX5_affordable_3 : decode cX5_affordable 3 = .ok (.iload_n 1, 1) := by decide +kernel
theorem dX5_affordable_4 : decode cX5_affordable 4 = .ok (.iconst 2, 1) := by decide +kernel
theorem dX5_affordable_5 : decode cX5_affordable 5 = .ok (.isub, 1) := by decide +kernel
theorem dX5_affordable_6 : decode cX5_affordable 6 = .ok (.invokestatic 93, 3) := by decide +kernel
theorem dX5_affordable_9 : decode cX5_affordable 9 = .ok (.istore_n 3, 1) := by decide +kernel
theorem dX5_affordable_10 : decode cX5_affordable 10 = .ok (.aload_n 0, 1) := by decide +kernel
theorem dX5_affordable_11 : decode cX5_affordable 11 = .ok (.getfield 25, 3) := by decide +kernel
theorem dX5_affordable_14 : decode cX5_affordable 14 = .ok (.iload_n 1, 1) := by decide +kernel
theorem dX5_affordable_15 : decode cX5_affordable 15 = .ok (.iconst 2, 1) := by decide +kernel
theorem dX5_affordable_16 : decode cX5_affordable 16 = .ok (.iadd, 1) := by decide +kernel
theorem dX5_affordable_17 : decode cX5_affordable 17 = .ok (.invokestatic 36, 3) := by decide +kernel
theorem dX5_affordable_20 : decode cX5_affordable 20 = .ok (.istore 4, 2) := by decide +kernel
theorem dX5_affordable_22 : decode cX5_affordable 22 = .ok (.iload_n 3, 1) := by decide +kernel
theorem dX5_affordable_23 : decode cX5_affordable 23 = .ok (.istore 5, 2) := by decide +kernel
theorem dX5_affordable_25 : decode cX5_affordable 25 = .ok (.iload 5, 2) := by decide +kernel
theorem dX5_affordable_27 : decode cX5_affordable 27 = .ok (.iload 4, 2) := by decide +kernel
theorem dX5_affordable_29 : decode cX5_affordable 29 = .ok (.if_icmp .gt 64, 3) := by decide +kernel
theorem dX5_affordable_32 : decode cX5_affordable 32 = .ok (.aload_n 0, 1) := by decide +kernel
theorem dX5_affordable_33 : decode cX5_affordable 33 = .ok (.getfield 22, 3) := by decide +kernel
theorem dX5_affordable_36 : decode cX5_affordable 36 = .ok (.iload_n 1, 1) := by decide +kernel
theorem dX5_affordable_37 : decode cX5_affordable 37 = .ok (.bipush 11, 2) := by decide +kernel
theorem dX5_affordable_39 : decode cX5_affordable 39 = .ok (.imul, 1) := by decide +kernel
theorem dX5_affordable_40 : decode cX5_affordable 40 = .ok (.iload 5, 2) := by decide +kernel
theorem dX5_affordable_42 : decode cX5_affordable 42 = .ok (.iadd, 1) := by decide +kernel
theorem dX5_affordable_43 : decode cX5_affordable 43 = .ok (.iaload, 1) := by decide +kernel
theorem dX5_affordable_44 : decode cX5_affordable 44 = .ok (.istore 6, 2) := by decide +kernel
theorem dX5_affordable_46 : decode cX5_affordable 46 = .ok (.iload 6, 2) := by decide +kernel
theorem dX5_affordable_48 : decode cX5_affordable 48 = .ok (.aload_n 0, 1) := by decide +kernel
theorem dX5_affordable_49 : decode cX5_affordable 49 = .ok (.getfield 29, 3) := by decide +kernel
theorem dX5_affordable_52 : decode cX5_affordable 52 = .ok (.if_icmp .ge 5, 3) := by decide +kernel
theorem dX5_affordable_55 : decode cX5_affordable 55 = .ok (.iconst (-1), 1) := by decide +kernel
theorem dX5_affordable_56 : decode cX5_affordable 56 = .ok (.ireturn, 1) := by decide +kernel
theorem dX5_affordable_57 : decode cX5_affordable 57 = .ok (.iload 6, 2) := by decide +kernel
theorem dX5_affordable_59 : decode cX5_affordable 59 = .ok (.aload_n 0, 1) := by decide +kernel
theorem dX5_affordable_60 : decode cX5_affordable 60 = .ok (.getfield 29, 3) := by decide +kernel
theorem dX5_affordable_63 : decode cX5_affordable 63 = .ok (.if_icmp .ne 24, 3) := by decide +kernel
theorem dX5_affordable_66 : decode cX5_affordable 66 = .ok (.iload 5, 2) := by decide +kernel
theorem dX5_affordable_68 : decode cX5_affordable 68 = .ok (.aload_n 0, 1) := by decide +kernel
theorem dX5_affordable_69 : decode cX5_affordable 69 = .ok (.getfield 25, 3) := by decide +kernel
theorem dX5_affordable_72 : decode cX5_affordable 72 = .ok (.if_icmp .ge 15, 3) := by decide +kernel
theorem dX5_affordable_75 : decode cX5_affordable 75 = .ok (.iload_n 2, 1) := by decide +kernel
theorem dX5_affordable_76 : decode cX5_affordable 76 = .ok (.iconst 1, 1) := by decide +kernel
theorem dX5_affordable_77 : decode cX5_affordable 77 = .ok (.aload_n 0, 1) := by decide +kernel
theorem dX5_affordable_78 : decode cX5_affordable 78 = .ok (.getfield 18, 3) := by decide +kernel
theorem dX5_affordable_81 : decode cX5_affordable 81 = .ok (.iload 5, 2) := by decide +kernel
theorem dX5_affordable_83 : decode cX5_affordable 83 = .ok (.iaload, 1) := by decide +kernel
theorem dX5_affordable_84 : decode cX5_affordable 84 = .ok (.ishl, 1) := by decide +kernel
theorem dX5_affordable_85 : decode cX5_affordable 85 = .ok (.ior, 1) := by decide +kernel
theorem dX5_affordable_86 : decode cX5_affordable 86 = .ok (.istore_n 2, 1) := by decide +kernel
theorem dX5_affordable_87 : decode cX5_affordable 87 = .ok (.iinc 5 1, 3) := by decide +kernel
theorem dX5_affordable_90 : decode cX5_affordable 90 = .ok (.goto (-65), 3) := by decide +kernel
theorem dX5_affordable_93 : decode cX5_affordable 93 = .ok (.iload_n 2, 1) := by decide +kernel
theorem dX5_affordable_94 : decode cX5_affordable 94 = .ok (.ireturn, 1) := by decide +kernel
theorem dX5_measure_0 : decode cX5_measure 0 = .ok (.iload_n 1, 1) := by decide +kernel
theorem dX5_measure_1 : decode cX5_measure 1 = .ok (.bipush 11, 2) := by decide +kernel
theorem dX5_measure_3 : decode cX5_measure 3 = .ok (.imul, 1) := by decide +kernel
theorem dX5_measure_4 : decode cX5_measure 4 = .ok (.istore_n 3, 1) := by decide +kernel
theorem dX5_measure_5 : decode cX5_measure 5 = .ok (.iload_n 3, 1) := by decide +kernel
theorem dX5_measure_6 : decode cX5_measure 6 = .ok (.bipush 11, 2) := by decide +kernel
theorem dX5_measure_8 : decode cX5_measure 8 = .ok (.isub, 1) := by decide +kernel
theorem dX5_measure_9 : decode cX5_measure 9 = .ok (.istore 4, 2) := by decide +kernel
theorem dX5_measure_11 : decode cX5_measure 11 = .ok (.iconst 0, 1) := by decide +kernel
theorem dX5_measure_12 : decode cX5_measure 12 = .ok (.iload_n 1, 1) := by decide +kernel
theorem dX5_measure_13 : decode cX5_measure 13 = .ok (.iconst 2, 1) := by decide +kernel
theorem dX5_measure_14 : decode cX5_measure 14 = .ok (.isub, 1) := by decide +kernel
theorem dX5_measure_15 : decode cX5_measure 15 = .ok (.invokestatic 93, 3) := by decide +kernel
theorem dX5_measure_18 : decode cX5_measure 18 = .ok (.istore 5, 2) := by decide +kernel
theorem dX5_measure_20 : decode cX5_measure 20 = .ok (.aload_n 0, 1) := by decide +kernel
theorem dX5_measure_21 : decode cX5_measure 21 = .ok (.getfield 25, 3) := by decide +kernel
theorem dX5_measure_24 : decode cX5_measure 24 = .ok (.iload_n 1, 1) := by decide +kernel
theorem dX5_measure_25 : decode cX5_measure 25 = .ok (.iconst 2, 1) := by decide +kernel
theorem dX5_measure_26 : decode cX5_measure 26 = .ok (.iadd, 1) := by decide +kernel
theorem dX5_measure_27 : decode cX5_measure 27 = .ok (.invokestatic 36, 3) := by decide +kernel
theorem dX5_measure_30 : decode cX5_measure 30 = .ok (.istore 6, 2) := by decide +kernel
theorem dX5_measure_32 : decode cX5_measure 32 = .ok (.iload 5, 2) := by decide +kernel
theorem dX5_measure_34 : decode cX5_measure 34 = .ok (.istore 7, 2) := by decide +kernel
theorem dX5_measure_36 : decode cX5_measure 36 = .ok (.iload 7, 2) := by decide +kernel
theorem dX5_measure_38 : decode cX5_measure 38 = .ok (.iload 6, 2) := by decide +kernel
theorem dX5_measure_40 : decode cX5_measure 40 = .ok (.if_icmp .gt 101, 3) := by decide +kernel
theorem dX5_measure_43 : decode cX5_measure 43 = .ok (.aload_n 0, 1) := by decide +kernel
theorem dX5_measure_44 : decode cX5_measure 44 = .ok (.getfield 22, 3) := by decide +kernel
theorem dX5_measure_47 : decode cX5_measure 47 = .ok (.iload 4, 2) := by decide +kernel
theorem dX5_measure_49 : decode cX5_measure 49 = .ok (.iload 7, 2) := by decide +kernel
theorem dX5_measure_51 : decode cX5_measure 51 = .ok (.iadd, 1) := by decide +kernel
theorem dX5_measure_52 : decode cX5_measure 52 = .ok (.iaload, 1) := by decide +kernel
theorem dX5_measure_53 : decode cX5_measure 53 = .ok (.iconst 1, 1) := by decide +kernel
theorem dX5_measure_54 : decode cX5_measure 54 = .ok (.iadd, 1) := by decide +kernel
theorem dX5_measure_55 : decode cX5_measure 55 = .ok (.istore 8, 2) := by decide +kernel
theorem dX5_measure_57 : decode cX5_measure 57 = .ok (.iload 7, 2) := by decide +kernel
theorem dX5_measure_59 : decode cX5_measure 59 = .ok (.ifCond .le 65, 3) := by decide +kernel
theorem dX5_measure_62 : decode cX5_measure 62 = .ok (.aload_n 0, 1) := by decide +kernel
theorem dX5_measure_63 : decode cX5_measure 63 = .ok (.getfield 18, 3) := by decide +kernel
theorem dX5_measure_66 : decode cX5_measure 66 = .ok (.iload 7, 2) := by decide +kernel
theorem dX5_measure_68 : decode cX5_measure 68 = .ok (.iconst 1, 1) := by decide +kernel
theorem dX5_measure_69 : decode cX5_measure 69 = .ok (.isub, 1) := by decide +kernel
theorem dX5_measure_70 : decode cX5_measure 70 = .ok (.iaload, 1) := by decide +kernel
theorem dX5_measure_71 : decode cX5_measure 71 = .ok (.iload_n 2, 1) := by decide +kernel
theorem dX5_measure_72 : decode cX5_measure 72 = .ok (.if_icmp .ne 7, 3) := by decide +kernel
theorem dX5_measure_75 : decode cX5_measure 75 = .ok (.iconst 0, 1) := by decide +kernel
theorem dX5_measure_76 : decode cX5_measure 76 = .ok (.goto 4, 3) := by decide +kernel
theorem dX5_measure_79 : decode cX5_measure 79 = .ok (.iconst 1, 1) := by decide +kernel
theorem dX5_measure_80 : decode cX5_measure 80 = .ok (.istore 9, 2) := by decide +kernel
theorem dX5_measure_82 : decode cX5_measure 82 = .ok (.iload 8, 2) := by decide +kernel
theorem dX5_measure_84 : decode cX5_measure 84 = .ok (.aload_n 0, 1) := by decide +kernel
theorem dX5_measure_85 : decode cX5_measure 85 = .ok (.getfield 22, 3) := by decide +kernel
theorem dX5_measure_88 : decode cX5_measure 88 = .ok (.iload 4, 2) := by decide +kernel
theorem dX5_measure_90 : decode cX5_measure 90 = .ok (.iload 7, 2) := by decide +kernel
theorem dX5_measure_92 : decode cX5_measure 92 = .ok (.iadd, 1) := by decide +kernel
theorem dX5_measure_93 : decode cX5_measure 93 = .ok (.iconst 1, 1) := by decide +kernel
theorem dX5_measure_94 : decode cX5_measure 94 = .ok (.isub, 1) := by decide +kernel
theorem dX5_measure_95 : decode cX5_measure 95 = .ok (.iaload, 1) := by decide +kernel
theorem dX5_measure_96 : decode cX5_measure 96 = .ok (.iload 9, 2) := by decide +kernel
theorem dX5_measure_98 : decode cX5_measure 98 = .ok (.iadd, 1) := by decide +kernel
theorem dX5_measure_99 : decode cX5_measure 99 = .ok (.invokestatic 36, 3) := by decide +kernel
theorem dX5_measure_102 : decode cX5_measure 102 = .ok (.istore 8, 2) := by decide +kernel
theorem dX5_measure_104 : decode cX5_measure 104 = .ok (.iload 8, 2) := by decide +kernel
theorem dX5_measure_106 : decode cX5_measure 106 = .ok (.aload_n 0, 1) := by decide +kernel
theorem dX5_measure_107 : decode cX5_measure 107 = .ok (.getfield 22, 3) := by decide +kernel
theorem dX5_measure_110 : decode cX5_measure 110 = .ok (.iload_n 3, 1) := by decide +kernel
theorem dX5_measure_111 : decode cX5_measure 111 = .ok (.iload 7, 2) := by decide +kernel
theorem dX5_measure_113 : decode cX5_measure 113 = .ok (.iadd, 1) := by decide +kernel
theorem dX5_measure_114 : decode cX5_measure 114 = .ok (.iconst 1, 1) := by decide +kernel
theorem dX5_measure_115 : decode cX5_measure 115 = .ok (.isub, 1) := by decide +kernel
theorem dX5_measure_116 : decode cX5_measure 116 = .ok (.iaload, 1) := by decide +kernel
theorem dX5_measure_117 : decode cX5_measure 117 = .ok (.iconst 1, 1) := by decide +kernel
theorem dX5_measure_118 : decode cX5_measure 118 = .ok (.iadd, 1) := by decide +kernel
theorem dX5_measure_119 : decode cX5_measure 119 = .ok (.invokestatic 36, 3) := by decide +kernel
theorem dX5_measure_122 : decode cX5_measure 122 = .ok (.istore 8, 2) := by decide +kernel
theorem dX5_measure_124 : decode cX5_measure 124 = .ok (.aload_n 0, 1) := by decide +kernel
theorem dX5_measure_125 : decode cX5_measure 125 = .ok (.getfield 22, 3) := by decide +kernel
theorem dX5_measure_128 : decode cX5_measure 128 = .ok (.iload_n 3, 1) := by decide +kernel
theorem dX5_measure_129 : decode cX5_measure 129 = .ok (.iload 7, 2) := by decide +kernel
theorem dX5_measure_131 : decode cX5_measure 131 = .ok (.iadd, 1) := by decide +kernel
theorem dX5_measure_132 : decode cX5_measure 132 = .ok (.iload 8, 2) := by decide +kernel
theorem dX5_measure_134 : decode cX5_measure 134 = .ok (.iastore, 1) := by decide +kernel
theorem dX5_measure_135 : decode cX5_measure 135 = .ok (.iinc 7 1, 3) := by decide +kernel
theorem dX5_measure_138 : decode cX5_measure 138 = .ok (.goto (-102), 3) := by decide +kernel
theorem dX5_measure_141 : decode cX5_measure 141 = .ok (.return_, 1) := by decide +kernel
theorem dX6_init_0 : decode cX6_init 0 = .ok (.aload_n 0, 1) := by decide +kernel
theorem dX6_init_1 : decode cX6_init 1 = .ok (.invokespecial 3, 3) := by decide +kernel
theorem dX6_init_4 : decode cX6_init 4 = .ok (.aload_n 0, 1) := by decide +kernel
theorem dX6_init_5 : decode cX6_init 5 = .ok (.bipush 12, 2) := by decide +kernel
theorem dX6_init_7 : decode cX6_init 7 = .ok (.newarray .int, 2) := by decide +kernel
