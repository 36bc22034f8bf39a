theorem dX9_isMending_8 : decode cX9_isMending 8 = .ok (.lconst 1, 1) := by decide +kernel
theorem dX9_isMending_9 : decode cX9_isMending 9 = .ok (.lsub, 1) := by decide +kernel
theorem dX9_isMending_10 : decode cX9_isMending 10 = .ok (.invokestatic 77, 3) := by decide +kernel
theorem dX9_isMending_13 : decode cX9_isMending 13 = .ok (.ireturn, 1) := by decide +kernel
theorem dX9_mending_0 : decode cX9_mending 0 = .ok (.aload_n 0, 1) := by decide +kernel
theorem dX9_mending_1 : decode cX9_mending 1 = .ok (.iconst 0, 1) := by decide +kernel
theorem dX9_mending_2 : decode cX9_mending 2 = .ok (.putfield 69, 3) := by decide +kernel
theorem dX9_mending_5 : decode cX9_mending 5 = .ok (.aload_n 0, 1) := by decide +kernel
theorem dX9_mending_6 : decode cX9_mending 6 = .ok (.iload_n 1, 1) := by decide +kernel
theorem dX9_mending_7 : decode cX9_mending 7 = .ok (.invokevirtual 211, 3) := by decide +kernel
theorem dX9_mending_10 : decode cX9_mending 10 = .ok (.ifCond .ne 5, 3) := by decide +kernel
theorem dX9_mending_13 : decode cX9_mending 13 = .ok (.iconst (-1), 1) := by decide +kernel
theorem dX9_mending_14 : decode cX9_mending 14 = .ok (.ireturn, 1) := by decide +kernel
theorem dX9_mending_15 : decode cX9_mending 15 = .ok (.iload_n 2, 1) := by decide +kernel
theorem dX9_mending_16 : decode cX9_mending 16 = .ok (.iconst (-1), 1) := by decide +kernel
theorem dX9_mending_17 : decode cX9_mending 17 = .ok (.if_icmp .ne 12, 3) := by decide +kernel
theorem dX9_mending_20 : decode cX9_mending 20 = .ok (.aload_n 0, 1) := by decide +kernel
theorem dX9_mending_21 : decode cX9_mending 21 = .ok (.getfield 50, 3) := by decide +kernel
theorem dX9_mending_24 : decode cX9_mending 24 = .ok (.iload_n 1, 1) := by decide +kernel
theorem dX9_mending_25 : decode cX9_mending 25 = .ok (.iaload, 1) := by decide +kernel
theorem dX9_mending_26 : decode cX9_mending 26 = .ok (.goto 36, 3) := by decide +kernel
theorem dX9_mending_29 : decode cX9_mending 29 = .ok (.iload_n 2, 1) := by decide +kernel
theorem dX9_mending_30 : decode cX9_mending 30 = .ok (.i2l, 1) := by decide +kernel
theorem dX9_mending_31 : decode cX9_mending 31 = .ok (.lconst 0, 1) := by decide +kernel
theorem dX9_mending_32 : decode cX9_mending 32 = .ok (.aload_n 0, 1) := by decide +kernel
theorem dX9_mending_33 : decode cX9_mending 33 = .ok (.getfield 50, 3) := by decide +kernel
theorem dX9_mending_36 : decode cX9_mending 36 = .ok (.iload_n 1, 1) := by decide +kernel
theorem dX9_mending_37 : decode cX9_mending 37 = .ok (.iaload, 1) := by decide +kernel
theorem dX9_mending_38 : decode cX9_mending 38 = .ok (.i2l, 1) := by decide +kernel
theorem dX9_mending_39 : decode cX9_mending 39 = .ok (.lconst 1, 1) := by decide +kernel
theorem dX9_mending_40 : decode cX9_mending 40 = .ok (.lsub, 1) := by decide +kernel
theorem dX9_mending_41 : decode cX9_mending 41 = .ok (.invokestatic 77, 3) := by decide +kernel
theorem dX9_mending_44 : decode cX9_mending 44 = .ok (.ifCond .eq 17, 3) := by decide +kernel
theorem dX9_mending_47 : decode cX9_mending 47 = .ok (.aload_n 0, 1) := by decide +kernel
theorem dX9_mending_48 : decode cX9_mending 48 = .ok (.getfield 47, 3) := by decide +kernel
theorem dX9_mending_51 : decode cX9_mending 51 = .ok (.bipush 12, 2) := by decide +kernel
theorem dX9_mending_53 : decode cX9_mending 53 = .ok (.iload_n 1, 1) := by decide +kernel
theorem dX9_mending_54 : decode cX9_mending 54 = .ok (.imul, 1) := by decide +kernel
theorem dX9_mending_55 : decode cX9_mending 55 = .ok (.iload_n 2, 1) := by decide +kernel
theorem dX9_mending_56 : decode cX9_mending 56 = .ok (.iadd, 1) := by decide +kernel
theorem dX9_mending_57 : decode cX9_mending 57 = .ok (.iaload, 1) := by decide +kernel
theorem dX9_mending_58 : decode cX9_mending 58 = .ok (.goto 4, 3) := by decide +kernel
theorem dX9_mending_61 : decode cX9_mending 61 = .ok (.iconst (-1), 1) := by decide +kernel
theorem dX9_mending_62 : decode cX9_mending 62 = .ok (.ireturn, 1) := by decide +kernel
theorem dX9_rank_0 : decode cX9_rank 0 = .ok (.aload_n 0, 1) := by decide +kernel
theorem dX9_rank_1 : decode cX9_rank 1 = .ok (.iconst 0, 1) := by decide +kernel
theorem dX9_rank_2 : decode cX9_rank 2 = .ok (.putfield 69, 3) := by decide +kernel
theorem dX9_rank_5 : decode cX9_rank 5 = .ok (.aload_n 0, 1) := by decide +kernel
theorem dX9_rank_6 : decode cX9_rank 6 = .ok (.iload_n 1, 1) := by decide +kernel
theorem dX9_rank_7 : decode cX9_rank 7 = .ok (.invokevirtual 211, 3) := by decide +kernel
theorem dX9_rank_10 : decode cX9_rank 10 = .ok (.ifCond .eq 12, 3) := by decide +kernel
theorem dX9_rank_13 : decode cX9_rank 13 = .ok (.aload_n 0, 1) := by decide +kernel
theorem dX9_rank_14 : decode cX9_rank 14 = .ok (.getfield 53, 3) := by decide +kernel
theorem dX9_rank_17 : decode cX9_rank 17 = .ok (.iload_n 1, 1) := by decide +kernel
theorem dX9_rank_18 : decode cX9_rank 18 = .ok (.iaload, 1) := by decide +kernel
theorem dX9_rank_19 : decode cX9_rank 19 = .ok (.goto 4, 3) := by decide +kernel
theorem dX9_rank_22 : decode cX9_rank 22 = .ok (.iconst (-1), 1) := by decide +kernel
theorem dX9_rank_23 : decode cX9_rank 23 = .ok (.ireturn, 1) := by decide +kernel
theorem dX9_readMending_0 : decode cX9_readMending 0 = .ok (.aload_n 0, 1) := by decide +kernel
theorem dX9_readMending_1 : decode cX9_readMending 1 = .ok (.aload_n 0, 1) := by decide +kernel
theorem dX9_readMending_2 : decode cX9_readMending 2 = .ok (.getfield 50, 3) := by decide +kernel
theorem dX9_readMending_5 : decode cX9_readMending 5 = .ok (.iload_n 1, 1) := by decide +kernel
theorem dX9_readMending_6 : decode cX9_readMending 6 = .ok (.iaload, 1) := by decide +kernel
theorem dX9_readMending_7 : decode cX9_readMending 7 = .ok (.putfield 114, 3) := by decide +kernel
theorem dX9_readMending_10 : decode cX9_readMending 10 = .ok (.iconst 0, 1) := by decide +kernel
theorem dX9_readMending_11 : decode cX9_readMending 11 = .ok (.istore_n 2, 1) := by decide +kernel
theorem dX9_readMending_12 : decode cX9_readMending 12 = .ok (.iload_n 2, 1) := by decide +kernel
theorem dX9_readMending_13 : decode cX9_readMending 13 = .ok (.aload_n 0, 1) := by decide +kernel
theorem dX9_readMending_14 : decode cX9_readMending 14 = .ok (.getfield 114, 3) := by decide +kernel
theorem dX9_readMending_17 : decode cX9_readMending 17 = .ok (.if_icmp .ge 26, 3) := by decide +kernel
theorem dX9_readMending_20 : decode cX9_readMending 20 = .ok (.aload_n 0, 1) := by decide +kernel
theorem dX9_readMending_21 : decode cX9_readMending 21 = .ok (.getfield 22, 3) := by decide +kernel
theorem dX9_readMending_24 : decode cX9_readMending 24 = .ok (.iload_n 2, 1) := by decide +kernel
theorem dX9_readMending_25 : decode cX9_readMending 25 = .ok (.aload_n 0, 1) := by decide +kernel
theorem dX9_readMending_26 : decode cX9_readMending 26 = .ok (.getfield 47, 3) := by decide +kernel
theorem dX9_readMending_29 : decode cX9_readMending 29 = .ok (.bipush 12, 2) := by decide +kernel
theorem dX9_readMending_31 : decode cX9_readMending 31 = .ok (.iload_n 1, 1) := by decide +kernel
theorem dX9_readMending_32 : decode cX9_readMending 32 = .ok (.imul, 1) := by decide +kernel
theorem dX9_readMending_33 : decode cX9_readMending 33 = .ok (.iload_n 2, 1) := by decide +kernel
theorem dX9_readMending_34 : decode cX9_readMending 34 = .ok (.iadd, 1) := by decide +kernel
theorem dX9_readMending_35 : decode cX9_readMending 35 = .ok (.iaload, 1) := by decide +kernel
theorem dX9_readMending_36 : decode cX9_readMending 36 = .ok (.iastore, 1) := by decide +kernel
theorem dX9_readMending_37 : decode cX9_readMending 37 = .ok (.iinc 2 1, 3) := by decide +kernel
theorem dX9_readMending_40 : decode cX9_readMending 40 = .ok (.goto (-28), 3) := by decide +kernel
theorem dX9_readMending_43 : decode cX9_readMending 43 = .ok (.aload_n 0, 1) := by decide +kernel
theorem dX9_readMending_44 : decode cX9_readMending 44 = .ok (.invokevirtual 142, 3) := by decide +kernel
theorem dX9_readMending_47 : decode cX9_readMending 47 = .ok (.iconst (-1), 1) := by decide +kernel
theorem dX9_readMending_48 : decode cX9_readMending 48 = .ok (.if_icmp .eq 7, 3) := by decide +kernel
theorem dX9_readMending_51 : decode cX9_readMending 51 = .ok (.iconst (-1), 1) := by decide +kernel
theorem dX9_readMending_52 : decode cX9_readMending 52 = .ok (.goto 7, 3) := by decide +kernel
theorem dX9_readMending_55 : decode cX9_readMending 55 = .ok (.aload_n 0, 1) := by decide +kernel
theorem dX9_readMending_56 : decode cX9_readMending 56 = .ok (.invokevirtual 145, 3) := by decide +kernel
theorem dX9_readMending_59 : decode cX9_readMending 59 = .ok (.ireturn, 1) := by decide +kernel
theorem dX9_setInputs_0 : decode cX9_setInputs 0 = .ok (.iload_n 1, 1) := by decide +kernel
theorem dX9_setInputs_1 : decode cX9_setInputs 1 = .ok (.istore_n 2, 1) := by decide +kernel
theorem dX9_setInputs_2 : decode cX9_setInputs 2 = .ok (.iconst 3, 1) := by decide +kernel
theorem dX9_setInputs_3 : decode cX9_setInputs 3 = .ok (.istore_n 3, 1) := by decide +kernel
theorem dX9_setInputs_4 : decode cX9_setInputs 4 = .ok (.iload_n 3, 1) := by decide +kernel
theorem dX9_setInputs_5 : decode cX9_setInputs 5 = .ok (.ifCond .lt 24, 3) := by decide +kernel
theorem dX9_setInputs_8 : decode cX9_setInputs 8 = .ok (.aload_n 0, 1) := by decide +kernel
theorem dX9_setInputs_9 : decode cX9_setInputs 9 = .ok (.getfield 34, 3) := by decide +kernel
theorem dX9_setInputs_12 : decode cX9_setInputs 12 = .ok (.iload_n 3, 1) := by decide +kernel
theorem dX9_setInputs_13 : decode cX9_setInputs 13 = .ok (.iload_n 2, 1) := by decide +kernel
theorem dX9_setInputs_14 : decode cX9_setInputs 14 = .ok (.iconst 5, 1) := by decide +kernel
theorem dX9_setInputs_15 : decode cX9_setInputs 15 = .ok (.irem, 1) := by decide +kernel
theorem dX9_setInputs_16 : decode cX9_setInputs 16 = .ok (.iconst 2, 1) := by decide +kernel
theorem dX9_setInputs_17 : decode cX9_setInputs 17 = .ok (.isub, 1) := by decide +kernel
theorem dX9_setInputs_18 : decode cX9_setInputs 18 = .ok (.iastore, 1) := by decide +kernel
theorem dX9_setInputs_19 : decode cX9_setInputs 19 = .ok (.iload_n 2, 1) := by decide +kernel
theorem dX9_setInputs_20 : decode cX9_setInputs 20 = .ok (.iconst 5, 1) := by decide +kernel
theorem dX9_setInputs_21 : decode cX9_setInputs 21 = .ok (.idiv, 1) := by decide +kernel
theorem dX9_setInputs_22 : decode cX9_setInputs 22 = .ok (.istore_n 2, 1) := by decide +kernel
theorem dX9_setInputs_23 : decode cX9_setInputs 23 = .ok (.iinc 3 (-1), 3) := by decide +kernel
theorem dX9_setInputs_26 : decode cX9_setInputs 26 = .ok (.goto (-22), 3) := by decide +kernel
theorem dX9_setInputs_29 : decode cX9_setInputs 29 = .ok (.return_, 1) := by decide +kernel
theorem dX9_apart_0 : decode cX9_apart 0 = .ok (.aload_n 0, 1) := by decide +kernel
theorem dX9_apart_1 : decode cX9_apart 1 = .ok (.iconst 0, 1) := by decide +kernel
theorem dX9_apart_2 : decode cX9_apart 2 = .ok (.putfield 69, 3) := by decide +kernel
theorem dX9_apart_5 : decode cX9_apart 5 = .ok (.aload_n 0, 1) := by decide +kernel
theorem dX9_apart_6 : decode cX9_apart 6 = .ok (.iload_n 1, 1) := by decide +kernel
theorem dX9_apart_7 : decode cX9_apart 7 = .ok (.invokevirtual 211, 3) := by decide +kernel
theorem dX9_apart_10 : decode cX9_apart 10 = .ok (.ifCond .eq 11, 3) := by decide +kernel
theorem dX9_apart_13 : decode cX9_apart 13 = .ok (.aload_n 0, 1) := by decide +kernel
theorem dX9_apart_14 : decode cX9_apart 14 = .ok (.iload_n 2, 1) := by decide +kernel
theorem dX9_apart_15 : decode cX9_apart 15 = .ok (.invokevirtual 211, 3) := by decide +kernel
theorem dX9_apart_18 : decode cX9_apart 18 = .ok (.ifCond .ne 6, 3) := by decide +kernel
theorem dX9_apart_21 : decode cX9_apart 21 = .ok (.bipush (-2), 2) := by decide +kernel
theorem dX9_apart_23 : decode cX9_apart 23 = .ok (.ireturn, 1) := by decide +kernel
theorem dX9_apart_24 : decode cX9_apart 24 = .ok (.aload_n 0, 1) := by decide +kernel
theorem dX9_apart_25 : decode cX9_apart 25 = .ok (.iload_n 1, 1) := by decide +kernel
theorem dX9_apart_26 : decode cX9_apart 26 = .ok (.invokevirtual 214, 3) := by decide +kernel
theorem dX9_apart_29 : decode cX9_apart 29 = .ok (.istore_n 3, 1) := by decide +kernel
theorem dX9_apart_30 : decode cX9_apart 30 = .ok (.iload_n 3, 1) := by decide +kernel
theorem dX9_apart_31 : decode cX9_apart 31 = .ok (.ifCond .ge 6, 3) := by decide +kernel
theorem dX9_apart_34 : decode cX9_apart 34 = .ok (.bipush (-6), 2) := by decide +kernel
theorem dX9_apart_36 : decode cX9_apart 36 = .ok (.ireturn, 1) := by decide +kernel
theorem dX9_apart_37 : decode cX9_apart 37 = .ok (.iconst 0, 1) := by decide +kernel
theorem dX9_apart_38 : decode cX9_apart 38 = .ok (.istore 4, 2) := by decide +kernel
theorem dX9_apart_40 : decode cX9_apart 40 = .ok (.iload 4, 2) := by decide +kernel
theorem dX9_apart_42 : decode cX9_apart 42 = .ok (.sipush 625, 3) := by decide +kernel
theorem dX9_apart_45 : decode cX9_apart 45 = .ok (.if_icmp .ge 26, 3) := by decide +kernel
theorem dX9_apart_48 : decode cX9_apart 48 = .ok (.aload_n 0, 1) := by decide +kernel
theorem dX9_apart_49 : decode cX9_apart 49 = .ok (.iload 4, 2) := by decide +kernel
theorem dX9_apart_51 : decode cX9_apart 51 = .ok (.invokevirtual 217, 3) := by decide +kernel
theorem dX9_apart_54 : decode cX9_apart 54 = .ok (.aload_n 0, 1) := by decide +kernel
theorem dX9_apart_55 : decode cX9_apart 55 = .ok (.getfield 66, 3) := by decide +kernel
theorem dX9_apart_58 : decode cX9_apart 58 = .ok (.iload 4, 2) := by decide +kernel
theorem dX9_apart_60 : decode cX9_apart 60 = .ok (.aload_n 0, 1) := by decide +kernel
theorem dX9_apart_61 : decode cX9_apart 61 = .ok (.invokevirtual 148, 3) := by decide +kernel
theorem dX9_apart_64 : decode cX9_apart 64 = .ok (.iastore, 1) := by decide +kernel
theorem dX9_apart_65 : decode cX9_apart 65 = .ok (.iinc 4 1, 3) := by decide +kernel
theorem dX9_apart_68 : decode cX9_apart 68 = .ok (.goto (-28), 3) := by decide +kernel
theorem dX9_apart_71 : decode cX9_apart 71 = .ok (.aload_n 0, 1) := by decide +kernel
theorem dX9_apart_72 : decode cX9_apart 72 = .ok (.iload_n 2, 1) := by decide +kernel
theorem dX9_apart_73 : decode cX9_apart 73 = .ok (.invokevirtual 214, 3) := by decide +kernel
theorem dX9_apart_76 : decode cX9_apart 76 = .ok (.istore 4, 2) := by decide +kernel
theorem dX9_apart_78 : decode cX9_apart 78 = .ok (.iload 4, 2) := by decide +kernel
theorem dX9_apart_80 : decode cX9_apart 80 = .ok (.ifCond .ge 6, 3) := by decide +kernel
theorem dX9_apart_83 : decode cX9_apart 83 = .ok (.bipush (-6), 2) := by decide +kernel
theorem dX9_apart_85 : decode cX9_apart 85 = .ok (.ireturn, 1) := by decide +kernel
theorem dX9_apart_86 : decode cX9_apart 86 = .ok (.iload 4, 2) := by decide +kernel
theorem dX9_apart_88 : decode cX9_apart 88 = .ok (.iload_n 3, 1) := by decide +kernel
theorem dX9_apart_89 : decode cX9_apart 89 = .ok (.if_icmp .eq 5, 3) := by decide +kernel
theorem dX9_apart_92 : decode cX9_apart 92 = .ok (.iconst 0, 1) := by decide +kernel
theorem dX9_apart_93 : decode cX9_apart 93 = .ok (.ireturn, 1) := by decide +kernel
theorem dX9_apart_94 : decode cX9_apart 94 = .ok (.iconst 0, 1) := by decide +kernel
theorem dX9_apart_95 : decode cX9_apart 95 = .ok (.istore 5, 2) := by decide +kernel
theorem dX9_apart_97 : decode cX9_apart 97 = .ok (.iload 5, 2) := by decide +kernel
theorem dX9_apart_99 : decode cX9_apart 99 = .ok (.sipush 625, 3) := by decide +kernel
theorem dX9_apart_102 : decode cX9_apart 102 = .ok (.if_icmp .ge 32, 3) := by decide +kernel
theorem dX9_apart_105 : decode cX9_apart 105 = .ok (.aload_n 0, 1) := by decide +kernel
theorem dX9_apart_106 : decode cX9_apart 106 = .ok (.iload 5, 2) := by decide +kernel
theorem dX9_apart_108 : decode cX9_apart 108 = .ok (.invokevirtual 217, 3) := by decide +kernel
theorem dX9_apart_111 : decode cX9_apart 111 = .ok (.aload_n 0, 1) := by decide +kernel
theorem dX9_apart_112 : decode cX9_apart 112 = .ok (.invokevirtual 148, 3) := by decide +kernel
theorem dX9_apart_115 : decode cX9_apart 115 = .ok (.aload_n 0, 1) := by decide +kernel
theorem dX9_apart_116 : decode cX9_apart 116 = .ok (.getfield 66, 3) := by decide +kernel
theorem dX9_apart_119 : decode cX9_apart 119 = .ok (.iload 5, 2) := by decide +kernel
theorem dX9_apart_121 : decode cX9_apart 121 = .ok (.iaload, 1) := by decide +kernel
theorem dX9_apart_122 : decode cX9_apart 122 = .ok (.if_icmp .eq 6, 3) := by decide +kernel
theorem dX9_apart_125 : decode cX9_apart 125 = .ok (.iload 5, 2) := by decide +kernel
theorem dX9_apart_127 : decode cX9_apart 127 = .ok (.ireturn, 1) := by decide +kernel
theorem dX9_apart_128 : decode cX9_apart 128 = .ok (.iinc 5 1, 3) := by decide +kernel
theorem dX9_apart_131 : decode cX9_apart 131 = .ok (.goto (-34), 3) := by decide +kernel
theorem dX9_apart_134 : decode cX9_apart 134 = .ok (.iconst (-1), 1) := by decide +kernel
theorem dX9_apart_135 : decode cX9_apart 135 = .ok (.ireturn, 1) := by decide +kernel
theorem dX9_take_0 : decode cX9_take 0 = .ok (.aload_n 0, 1) := by decide +kernel
theorem dX9_take_1 : decode cX9_take 1 = .ok (.iconst 0, 1) := by decide +kernel
theorem dX9_take_2 : decode cX9_take 2 = .ok (.putfield 69, 3) := by decide +kernel
theorem dX9_take_5 : decode cX9_take 5 = .ok (.aload_n 0, 1) := by decide +kernel
theorem dX9_take_6 : decode cX9_take 6 = .ok (.iload_n 1, 1) := by decide +kernel
theorem dX9_take_7 : decode cX9_take 7 = .ok (.invokevirtual 211, 3) := by decide +kernel
theorem dX9_take_10 : decode cX9_take 10 = .ok (.ifCond .ne 10, 3) := by decide +kernel
theorem dX9_take_13 : decode cX9_take 13 = .ok (.aload_n 0, 1) := by decide +kernel
theorem dX9_take_14 : decode cX9_take 14 = .ok (.bipush (-2), 2) := by decide +kernel
theorem dX9_take_16 : decode cX9_take 16 = .ok (.invokevirtual 85, 3) := by decide +kernel
theorem dX9_take_19 : decode cX9_take 19 = .ok (.ireturn, 1) := by decide +kernel
theorem dX9_take_20 : decode cX9_take 20 = .ok (.aload_n 0, 1) := by decide +kernel
theorem dX9_take_21 : decode cX9_take 21 = .ok (.getfield 50, 3) := by decide +kernel
theorem dX9_take_24 : decode cX9_take 24 = .ok (.iload_n 1, 1) := by decide +kernel
theorem dX9_take_25 : decode cX9_take 25 = .ok (.iaload, 1) := by decide +kernel
theorem dX9_take_26 : decode cX9_take 26 = .ok (.bipush 10, 2) := by decide +kernel
theorem dX9_take_28 : decode cX9_take 28 = .ok (.if_icmp .le 10, 3) := by decide +kernel
theorem dX9_take_31 : decode cX9_take 31 = .ok (.aload_n 0, 1) := by decide +kernel
theorem dX9_take_32 : decode cX9_take 32 = .ok (.bipush (-5), 2) := by decide +kernel
theorem dX9_take_34 : decode cX9_take 34 = .ok (.invokevirtual 85, 3) := by decide +kernel
theorem dX9_take_37 : decode cX9_take 37 = .ok (.ireturn, 1) := by decide +kernel
theorem dX9_take_38 : decode cX9_take 38 = .ok (.iconst 0, 1) := by decide +kernel
theorem dX9_take_39 : decode cX9_take 39 = .ok (.istore_n 2, 1) := by decide +kernel
theorem dX9_take_40 : decode cX9_take 40 = .ok (.iload_n 2, 1) := by decide +kernel
theorem dX9_take_41 : decode cX9_take 41 = .ok (.bipush 28, 2) := by decide +kernel
theorem dX9_take_43 : decode cX9_take 43 = .ok (.if_icmp .ge 72, 3) := by decide +kernel
theorem dX9_take_46 : decode cX9_take 46 = .ok (.aload_n 0, 1) := by decide +kernel
theorem dX9_take_47 : decode cX9_take 47 = .ok (.getfield 47, 3) := by decide +kernel
theorem dX9_take_50 : decode cX9_take 50 = .ok (.bipush 12, 2) := by decide +kernel
theorem dX9_take_52 : decode cX9_take 52 = .ok (.iload_n 1, 1) := by decide +kernel
theorem dX9_take_53 : decode cX9_take 53 = .ok (.imul, 1) := by decide +kernel
theorem dX9_take_54 : decode cX9_take 54 = .ok (.aload_n 0, 1) := by decide +kernel
theorem dX9_take_55 : decode cX9_take 55 = .ok (.getfield 50, 3) := by decide +kernel
theorem dX9_take_58 : decode cX9_take 58 = .ok (.iload_n 1, 1) := by decide +kernel
theorem dX9_take_59 : decode cX9_take 59 = .ok (.iaload, 1) := by decide +kernel
theorem dX9_take_60 : decode cX9_take 60 = .ok (.iload_n 2, 1) := by decide +kernel
theorem dX9_take_61 : decode cX9_take 61 = .ok (.invokestatic 189, 3) := by decide +kernel
theorem dX9_take_64 : decode cX9_take 64 = .ok (.aload_n 0, 1) := by decide +kernel
theorem dX9_take_65 : decode cX9_take 65 = .ok (.getfield 56, 3) := by decide +kernel
theorem dX9_take_68 : decode cX9_take 68 = .ok (.iload_n 2, 1) := by decide +kernel
theorem dX9_take_69 : decode cX9_take 69 = .ok (.iaload, 1) := by decide +kernel
theorem dX9_take_70 : decode cX9_take 70 = .ok (.isub, 1) := by decide +kernel
theorem dX9_take_71 : decode cX9_take 71 = .ok (.istore_n 3, 1) := by decide +kernel
theorem dX9_take_72 : decode cX9_take 72 = .ok (.aload_n 0, 1) := by decide +kernel
theorem dX9_take_73 : decode cX9_take 73 = .ok (.getfield 41, 3) := by decide +kernel
theorem dX9_take_76 : decode cX9_take 76 = .ok (.iload_n 2, 1) := by decide +kernel
theorem dX9_take_77 : decode cX9_take 77 = .ok (.dup2, 1) := by decide +kernel
theorem dX9_take_78 : decode cX9_take 78 = .ok (.iaload, 1) := by decide +kernel
theorem dX9_take_79 : decode cX9_take 79 = .ok (.iload_n 3, 1) := by decide +kernel
theorem dX9_take_80 : decode cX9_take 80 = .ok (.ifCond .le 7, 3) := by decide +kernel
theorem dX9_take_83 : decode cX9_take 83 = .ok (.iload_n 3, 1) := by decide +kernel
theorem dX9_take_84 : decode cX9_take 84 = .ok (.goto 4, 3) := by decide +kernel
theorem dX9_take_87 : decode cX9_take 87 = .ok (.iconst 0, 1) := by decide +kernel
theorem dX9_take_88 : decode cX9_take 88 = .ok (.iadd, 1) := by decide +kernel
theorem dX9_take_89 : decode cX9_take 89 = .ok (.iastore, 1) := by decide +kernel
theorem dX9_take_90 : decode cX9_take 90 = .ok (.aload_n 0, 1) := by decide +kernel
theorem dX9_take_91 : decode cX9_take 91 = .ok (.getfield 44, 3) := by decide +kernel
theorem dX9_take_94 : decode cX9_take 94 = .ok (.iload_n 2, 1) := by decide +kernel
theorem dX9_take_95 : decode cX9_take 95 = .ok (.dup2, 1) := by decide +kernel
theorem dX9_take_96 : decode cX9_take 96 = .ok (.iaload, 1) := by decide +kernel
theorem dX9_take_97 : decode cX9_take 97 = .ok (.iload_n 3, 1) := by decide +kernel
theorem dX9_take_98 : decode cX9_take 98 = .ok (.ifCond .ge 8, 3) := by decide +kernel
theorem dX9_take_101 : decode cX9_take 101 = .ok (.iload_n 3, 1) := by decide +kernel
theorem dX9_take_102 : decode cX9_take 102 = .ok (.ineg, 1) := by decide +kernel
theorem dX9_take_103 : decode cX9_take 103 = .ok (.goto 4, 3) := by decide +kernel
theorem dX9_take_106 : decode cX9_take 106 = .ok (.iconst 0, 1) := by decide +kernel
theorem dX9_take_107 : decode cX9_take 107 = .ok (.iadd, 1) := by decide +kernel
theorem dX9_take_108 : decode cX9_take 108 = .ok (.iastore, 1) := by decide +kernel
theorem dX9_take_109 : decode cX9_take 109 = .ok (.iinc 2 1, 3) := by decide +kernel
theorem dX9_take_112 : decode cX9_take 112 = .ok (.goto (-72), 3) := by decide +kernel
theorem dX9_take_115 : decode cX9_take 115 = .ok (.aload_n 0, 1) := by decide +kernel
theorem dX9_take_116 : decode cX9_take 116 = .ok (.aload_n 0, 1) := by decide +kernel
theorem dX9_take_117 : decode cX9_take 117 = .ok (.getfield 50, 3) := by decide +kernel
theorem dX9_take_120 : decode cX9_take 120 = .ok (.iload_n 1, 1) := by decide +kernel
theorem dX9_take_121 : decode cX9_take 121 = .ok (.iaload, 1) := by decide +kernel
theorem dX9_take_122 : decode cX9_take 122 = .ok (.putfield 89, 3) := by decide +kernel
theorem dX9_take_125 : decode cX9_take 125 = .ok (.iconst 0, 1) := by decide +kernel
theorem dX9_take_126 : decode cX9_take 126 = .ok (.istore_n 2, 1) := by decide +kernel
theorem dX9_take_127 : decode cX9_take 127 = .ok (.iload_n 2, 1) := by decide +kernel
theorem dX9_take_128 : decode cX9_take 128 = .ok (.aload_n 0, 1) := by decide +kernel
theorem dX9_take_129 : decode cX9_take 129 = .ok (.getfield 89, 3) := by decide +kernel
theorem dX9_take_132 : decode cX9_take 132 = .ok (.if_icmp .ge 26, 3) := by decide +kernel
theorem dX9_take_135 : decode cX9_take 135 = .ok (.aload_n 0, 1) := by decide +kernel
theorem dX9_take_136 : decode cX9_take 136 = .ok (.getfield 7, 3) := by decide +kernel
theorem dX9_take_139 : decode cX9_take 139 = .ok (.iload_n 2, 1) := by decide +kernel
theorem dX9_take_140 : decode cX9_take 140 = .ok (.aload_n 0, 1) := by decide +kernel
theorem dX9_take_141 : decode cX9_take 141 = .ok (.getfield 47, 3) := by decide +kernel
theorem dX9_take_144 : decode cX9_take 144 = .ok (.bipush 12, 2) := by decide +kernel
theorem dX9_take_146 : decode cX9_take 146 = .ok (.iload_n 1, 1) := by decide +kernel
theorem dX9_take_147 : decode cX9_take 147 = .ok (.imul, 1) := by decide +kernel
theorem dX9_take_148 : decode cX9_take 148 = .ok (.iload_n 2, 1) := by decide +kernel
theorem dX9_take_149 : decode cX9_take 149 = .ok (.iadd, 1) := by decide +kernel
theorem dX9_take_150 : decode cX9_take 150 = .ok (.iaload, 1) := by decide +kernel
theorem dX9_take_151 : decode cX9_take 151 = .ok (.iastore, 1) := by decide +kernel
theorem dX9_take_152 : decode cX9_take 152 = .ok (.iinc 2 1, 3) := by decide +kernel
theorem dX9_take_155 : decode cX9_take 155 = .ok (.goto (-28), 3) := by decide +kernel
theorem dX9_take_158 : decode cX9_take 158 = .ok (.aload_n 0, 1) := by decide +kernel
theorem dX9_take_159 : decode cX9_take 159 = .ok (.iconst 0, 1) := by decide +kernel
theorem dX9_take_160 : decode cX9_take 160 = .ok (.putfield 174, 3) := by decide +kernel
theorem dX9_take_163 : decode cX9_take 163 = .ok (.aload_n 0, 1) := by decide +kernel
theorem dX9_take_164 : decode cX9_take 164 = .ok (.aload_n 0, 1) := by decide +kernel
theorem dX9_take_165 : decode cX9_take 165 = .ok (.getfield 89, 3) := by decide +kernel
theorem dX9_take_168 : decode cX9_take 168 = .ok (.invokevirtual 85, 3) := by decide +kernel
theorem dX9_take_171 : decode cX9_take 171 = .ok (.ireturn, 1) := by decide +kernel
theorem dX9_habit_0 : decode cX9_habit 0 = .ok (.aload_n 0, 1) := by decide +kernel
theorem dX9_habit_1 : decode cX9_habit 1 = .ok (.iconst 0, 1) := by decide +kernel
theorem dX9_habit_2 : decode cX9_habit 2 = .ok (.putfield 69, 3) := by decide +kernel
theorem dX9_habit_5 : decode cX9_habit 5 = .ok (.iload_n 1, 1) := by decide +kernel
theorem dX9_habit_6 : decode cX9_habit 6 = .ok (.invokestatic 81, 3) := by decide +kernel
theorem dX9_habit_9 : decode cX9_habit 9 = .ok (.ifCond .ne 7, 3) := by decide +kernel
theorem dX9_habit_12 : decode cX9_habit 12 = .ok (.iconst (-1), 1) := by decide +kernel
theorem dX9_habit_13 : decode cX9_habit 13 = .ok (.goto 31, 3) := by decide +kernel
theorem dX9_habit_16 : decode cX9_habit 16 = .ok (.iload_n 2, 1) := by decide +kernel
theorem dX9_habit_17 : decode cX9_habit 17 = .ok (.ifCond .ne 12, 3) := by decide +kernel
theorem dX9_habit_20 : decode cX9_habit 20 = .ok (.aload_n 0, 1) := by decide +kernel
theorem dX9_habit_21 : decode cX9_habit 21 = .ok (.getfield 41, 3) := by decide +kernel
theorem dX9_habit_24 : decode cX9_habit 24 = .ok (.iload_n 1, 1) := by decide +kernel
theorem dX9_habit_25 : decode cX9_habit 25 = .ok (.iaload, 1) := by decide +kernel
theorem dX9_habit_26 : decode cX9_habit 26 = .ok (.goto 18, 3) := by decide +kernel
theorem dX9_habit_29 : decode cX9_habit 29 = .ok (.iload_n 2, 1) := by decide +kernel
theorem dX9_habit_30 : decode cX9_habit 30 = .ok (.iconst 1, 1) := by decide +kernel
theorem dX9_habit_31 : decode cX9_habit 31 = .ok (.if_icmp .ne 12, 3) := by decide +kernel
theorem dX9_habit_34 : decode cX9_habit 34 = .ok (.aload_n 0, 1) := by decide +kernel
theorem dX9_habit_35 : decode cX9_habit 35 = .ok (.getfield 44, 3) := by decide +kernel
theorem dX9_habit_38 : decode cX9_habit 38 = .ok (.iload_n 1, 1) := by decide +kernel
theorem dX9_habit_39 : decode cX9_habit 39 = .ok (.iaload, 1) := by decide +kernel
theorem dX9_habit_40 : decode cX9_habit 40 = .ok (.goto 4, 3) := by decide +kernel
theorem dX9_habit_43 : decode cX9_habit 43 = .ok (.iconst (-1), 1) := by decide +kernel
theorem dX9_habit_44 : decode cX9_habit 44 = .ok (.ireturn, 1) := by decide +kernel
theorem dX9_forget_0 : decode cX9_forget 0 = .ok (.aload_n 0, 1) := by decide +kernel
theorem dX9_forget_1 : decode cX9_forget 1 = .ok (.iconst 0, 1) := by decide +kernel
theorem dX9_forget_2 : decode cX9_forget 2 = .ok (.putfield 69, 3) := by decide +kernel
theorem dX9_forget_5 : decode cX9_forget 5 = .ok (.iconst 0, 1) := by decide +kernel
theorem dX9_forget_6 : decode cX9_forget 6 = .ok (.istore_n 1, 1) := by decide +kernel
theorem dX9_forget_7 : decode cX9_forget 7 = .ok (.iload_n 1, 1) := by decide +kernel
theorem dX9_forget_8 : decode cX9_forget 8 = .ok (.bipush 28, 2) := by decide +kernel
theorem dX9_forget_10 : decode cX9_forget 10 = .ok (.if_icmp .ge 23, 3) := by decide +kernel
theorem dX9_forget_13 : decode cX9_forget 13 = .ok (.aload_n 0, 1) := by decide +kernel
theorem dX9_forget_14 : decode cX9_forget 14 = .ok (.getfield 41, 3) := by decide +kernel
theorem dX9_forget_17 : decode cX9_forget 17 = .ok (.iload_n 1, 1) := by decide +kernel
theorem dX9_forget_18 : decode cX9_forget 18 = .ok (.iconst 0, 1) := by decide +kernel
theorem dX9_forget_19 : decode cX9_forget 19 = .ok (.iastore, 1) := by decide +kernel
theorem dX9_forget_20 : decode cX9_forget 20 = .ok (.aload_n 0, 1) := by decide +kernel
theorem dX9_forget_21 : decode cX9_forget 21 = .ok (.getfield 44, 3) := by decide +kernel
theorem dX9_forget_24 : decode cX9_forget 24 = .ok (.iload_n 1, 1) := by decide +kernel
theorem dX9_forget_25 : decode cX9_forget 25 = .ok (.iconst 0, 1) := by decide +kernel
theorem dX9_forget_26 : decode cX9_forget 26 = .ok (.iastore, 1) := by decide +kernel
theorem dX9_forget_27 : decode cX9_forget 27 = .ok (.iinc 1 1, 3) := by decide +kernel
theorem dX9_forget_30 : decode cX9_forget 30 = .ok (.goto (-23), 3) := by decide +kernel
theorem dX9_forget_33 : decode cX9_forget 33 = .ok (.iconst 0, 1) := by decide +kernel
theorem dX9_forget_34 : decode cX9_forget 34 = .ok (.ireturn, 1) := by decide +kernel
theorem dX9_count_0 : decode cX9_count 0 = .ok (.aload_n 0, 1) := by decide +kernel
theorem dX9_count_1 : decode cX9_count 1 = .ok (.iconst 0, 1) := by decide +kernel
theorem dX9_count_2 : decode cX9_count 2 = .ok (.putfield 69, 3) := by decide +kernel
theorem dX9_count_5 : decode cX9_count 5 = .ok (.iload_n 1, 1) := by decide +kernel
theorem dX9_count_6 : decode cX9_count 6 = .ok (.ifCond .ne 10, 3) := by decide +kernel
theorem dX9_count_9 : decode cX9_count 9 = .ok (.aload_n 0, 1) := by decide +kernel
theorem dX9_count_10 : decode cX9_count 10 = .ok (.getfield 89, 3) := by decide +kernel
theorem dX9_count_13 : decode cX9_count 13 = .ok (.goto 28, 3) := by decide +kernel
theorem dX9_count_16 : decode cX9_count 16 = .ok (.iload_n 1, 1) := by decide +kernel
theorem dX9_count_17 : decode cX9_count 17 = .ok (.iconst 1, 1) := by decide +kernel
theorem dX9_count_18 : decode cX9_count 18 = .ok (.if_icmp .ne 10, 3) := by decide +kernel
theorem dX9_count_21 : decode cX9_count 21 = .ok (.aload_n 0, 1) := by decide +kernel
theorem dX9_count_22 : decode cX9_count 22 = .ok (.getfield 155, 3) := by decide +kernel
theorem dX9_count_25 : decode cX9_count 25 = .ok (.goto 16, 3) := by decide +kernel
theorem dX9_count_28 : decode cX9_count 28 = .ok (.iload_n 1, 1) := by decide +kernel
theorem dX9_count_29 : decode cX9_count 29 = .ok (.iconst 2, 1) := by decide +kernel
theorem dX9_count_30 : decode cX9_count 30 = .ok (.if_icmp .ne 10, 3) := by decide +kernel
theorem dX9_count_33 : decode cX9_count 33 = .ok (.aload_n 0, 1) := by decide +kernel
theorem dX9_count_34 : decode cX9_count 34 = .ok (.getfield 174, 3) := by decide +kernel
theorem dX9_count_37 : decode cX9_count 37 = .ok (.goto 4, 3) := by decide +kernel
theorem dX9_count_40 : decode cX9_count 40 = .ok (.iconst (-1), 1) := by decide +kernel
theorem dX9_count_41 : decode cX9_count 41 = .ok (.ireturn, 1) := by decide +kernel
theorem dX9_status_0 : decode cX9_status 0 = .ok (.aload_n 0, 1) := by decide +kernel
theorem dX9_status_1 : decode cX9_status 1 = .ok (.iconst 0, 1) := by decide +kernel
theorem dX9_status_2 : decode cX9_status 2 = .ok (.putfield 69, 3) := by decide +kernel
theorem dX9_status_5 : decode cX9_status 5 = .ok (.aload_n 0, 1) := by decide +kernel
theorem dX9_status_6 : decode cX9_status 6 = .ok (.getfield 72, 3) := by decide +kernel
theorem dX9_status_9 : decode cX9_status 9 = .ok (.ireturn, 1) := by decide +kernel
theorem dL_law_0 : decode cL_law 0 = .ok (.new 7, 3) := by decide +kernel
theorem dL_law_3 : decode cL_law 3 = .ok (.dup, 1) := by decide +kernel
theorem dL_law_4 : decode cL_law 4 = .ok (.invokespecial 9, 3) := by decide +kernel
theorem dL_law_7 : decode cL_law 7 = .ok (.astore_n 1, 1) := by decide +kernel
theorem dL_law_8 : decode cL_law 8 = .ok (.new 10, 3) := by decide +kernel
theorem dL_law_11 : decode cL_law 11 = .ok (.dup, 1) := by decide +kernel
theorem dL_law_12 : decode cL_law 12 = .ok (.invokespecial 12, 3) := by decide +kernel
theorem dL_law_15 : decode cL_law 15 = .ok (.astore_n 2, 1) := by decide +kernel
theorem dL_law_16 : decode cL_law 16 = .ok (.iconst 0, 1) := by decide +kernel
theorem dL_law_17 : decode cL_law 17 = .ok (.istore_n 3, 1) := by decide +kernel
theorem dL_law_18 : decode cL_law 18 = .ok (.iload_n 3, 1) := by decide +kernel
theorem dL_law_19 : decode cL_law 19 = .ok (.aload_n 0, 1) := by decide +kernel
theorem dL_law_20 : decode cL_law 20 = .ok (.arraylength, 1) := by decide +kernel
theorem dL_law_21 : decode cL_law 21 = .ok (.bipush 6, 2) := by decide +kernel
theorem dL_law_23 : decode cL_law 23 = .ok (.isub, 1) := by decide +kernel
theorem dL_law_24 : decode cL_law 24 = .ok (.if_icmp .gt 657, 3) := by decide +kernel
theorem dL_law_27 : decode cL_law 27 = .ok (.aload_n 0, 1) := by decide +kernel
theorem dL_law_28 : decode cL_law 28 = .ok (.iload_n 3, 1) := by decide +kernel
theorem dL_law_29 : decode cL_law 29 = .ok (.iaload, 1) := by decide +kernel
theorem dL_law_30 : decode cL_law 30 = .ok (.bipush 31, 2) := by decide +kernel
theorem dL_law_32 : decode cL_law 32 = .ok (.iand, 1) := by decide +kernel
theorem dL_law_33 : decode cL_law 33 = .ok (.tableswitch 642 0 20 #[99, 122, 155, 168, 191, 224, 237, 250, 303, 366, 389, 402, 435, 448, 481, 504, 537, 560, 593, 606, 629], 99) := by decide +kernel
theorem dL_law_132 : decode cL_law 132 = .ok (.aload_n 1, 1) := by decide +kernel
theorem dL_law_133 : decode cL_law 133 = .ok (.aload_n 0, 1) := by decide +kernel
theorem dL_law_134 : decode cL_law 134 = .ok (.iload_n 3, 1) := by decide +kernel
theorem dL_law_135 : decode cL_law 135 = .ok (.iconst 1, 1) := by decide +kernel
theorem dL_law_136 : decode cL_law 136 = .ok (.iadd, 1) := by decide +kernel
theorem dL_law_137 : decode cL_law 137 = .ok (.iaload, 1) := by decide +kernel
theorem dL_law_138 : decode cL_law 138 = .ok (.invokevirtual 13, 3) := by decide +kernel
theorem dL_law_141 : decode cL_law 141 = .ok (.pop, 1) := by decide +kernel
theorem dL_law_142 : decode cL_law 142 = .ok (.aload_n 2, 1) := by decide +kernel
theorem dL_law_143 : decode cL_law 143 = .ok (.aload_n 0, 1) := by decide +kernel
theorem dL_law_144 : decode cL_law 144 = .ok (.iload_n 3, 1) := by decide +kernel
theorem dL_law_145 : decode cL_law 145 = .ok (.iconst 1, 1) := by decide +kernel
theorem dL_law_146 : decode cL_law 146 = .ok (.iadd, 1) := by decide +kernel
theorem dL_law_147 : decode cL_law 147 = .ok (.iaload, 1) := by decide +kernel
theorem dL_law_148 : decode cL_law 148 = .ok (.invokevirtual 17, 3) := by decide +kernel
theorem dL_law_151 : decode cL_law 151 = .ok (.pop, 1) := by decide +kernel
theorem dL_law_152 : decode cL_law 152 = .ok (.goto 523, 3) := by decide +kernel
theorem dL_law_155 : decode cL_law 155 = .ok (.aload_n 1, 1) := by decide +kernel
theorem dL_law_156 : decode cL_law 156 = .ok (.aload_n 0, 1) := by decide +kernel
theorem dL_law_157 : decode cL_law 157 = .ok (.iload_n 3, 1) := by decide +kernel
theorem dL_law_158 : decode cL_law 158 = .ok (.iconst 1, 1) := by decide +kernel
theorem dL_law_159 : decode cL_law 159 = .ok (.iadd, 1) := by decide +kernel
theorem dL_law_160 : decode cL_law 160 = .ok (.iaload, 1) := by decide +kernel
theorem dL_law_161 : decode cL_law 161 = .ok (.aload_n 0, 1) := by decide +kernel
theorem dL_law_162 : decode cL_law 162 = .ok (.iload_n 3, 1) := by decide +kernel
theorem dL_law_163 : decode cL_law 163 = .ok (.iconst 2, 1) := by decide +kernel
theorem dL_law_164 : decode cL_law 164 = .ok (.iadd, 1) := by decide +kernel
theorem dL_law_165 : decode cL_law 165 = .ok (.iaload, 1) := by decide +kernel
theorem dL_law_166 : decode cL_law 166 = .ok (.invokevirtual 18, 3) := by decide +kernel
theorem dL_law_169 : decode cL_law 169 = .ok (.pop, 1) := by decide +kernel
theorem dL_law_170 : decode cL_law 170 = .ok (.aload_n 2, 1) := by decide +kernel
theorem dL_law_171 : decode cL_law 171 = .ok (.aload_n 0, 1) := by decide +kernel
theorem dL_law_172 : decode cL_law 172 = .ok (.iload_n 3, 1) := by decide +kernel
theorem dL_law_173 : decode cL_law 173 = .ok (.iconst 1, 1) := by decide +kernel
theorem dL_law_174 : decode cL_law 174 = .ok (.iadd, 1) := by decide +kernel
theorem dL_law_175 : decode cL_law 175 = .ok (.iaload, 1) := by decide +kernel
theorem dL_law_176 : decode cL_law 176 = .ok (.aload_n 0, 1) := by decide +kernel
theorem dL_law_177 : decode cL_law 177 = .ok (.iload_n 3, 1) := by decide +kernel
theorem dL_law_178 : decode cL_law 178 = .ok (.iconst 2, 1) := by decide +kernel
theorem dL_law_179 : decode cL_law 179 = .ok (.iadd, 1) := by decide +kernel
theorem dL_law_180 : decode cL_law 180 = .ok (.iaload, 1) := by decide +kernel
theorem dL_law_181 : decode cL_law 181 = .ok (.invokevirtual 22, 3) := by decide +kernel
theorem dL_law_184 : decode cL_law 184 = .ok (.pop, 1) := by decide +kernel
theorem dL_law_185 : decode cL_law 185 = .ok (.goto 490, 3) := by decide +kernel
theorem dL_law_188 : decode cL_law 188 = .ok (.aload_n 1, 1) := by decide +kernel
theorem dL_law_189 : decode cL_law 189 = .ok (.invokevirtual 23, 3) := by decide +kernel
theorem dL_law_192 : decode cL_law 192 = .ok (.pop, 1) := by decide +kernel
theorem dL_law_193 : decode cL_law 193 = .ok (.aload_n 2, 1) := by decide +kernel
theorem dL_law_194 : decode cL_law 194 = .ok (.invokevirtual 27, 3) := by decide +kernel
theorem dL_law_197 : decode cL_law 197 = .ok (.pop, 1) := by decide +kernel
theorem dL_law_198 : decode cL_law 198 = .ok (.goto 477, 3) := by decide +kernel
theorem dL_law_201 : decode cL_law 201 = .ok (.aload_n 1, 1) := by decide +kernel
theorem dL_law_202 : decode cL_law 202 = .ok (.aload_n 0, 1) := by decide +kernel
theorem dL_law_203 : decode cL_law 203 = .ok (.iload_n 3, 1) := by decide +kernel
theorem dL_law_204 : decode cL_law 204 = .ok (.iconst 1, 1) := by decide +kernel
theorem dL_law_205 : decode cL_law 205 = .ok (.iadd, 1) := by decide +kernel
theorem dL_law_206 : decode cL_law 206 = .ok (.iaload, 1) := by decide +kernel
theorem dL_law_207 : decode cL_law 207 = .ok (.invokevirtual 28, 3) := by decide +kernel
theorem dL_law_210 : decode cL_law 210 = .ok (.pop, 1) := by decide +kernel
theorem dL_law_211 : decode cL_law 211 = .ok (.aload_n 2, 1) := by decide +kernel
theorem dL_law_212 : decode cL_law 212 = .ok (.aload_n 0, 1) := by decide +kernel
theorem dL_law_213 : decode cL_law 213 = .ok (.iload_n 3, 1) := by decide +kernel
theorem dL_law_214 : decode cL_law 214 = .ok (.iconst 1, 1) := by decide +kernel
theorem dL_law_215 : decode cL_law 215 = .ok (.iadd, 1) := by decide +kernel
theorem dL_law_216 : decode cL_law 216 = .ok (.iaload, 1) := by decide +kernel
theorem dL_law_217 : decode cL_law 217 = .ok (.invokevirtual 31, 3) := by decide +kernel
theorem dL_law_220 : decode cL_law 220 = .ok (.pop, 1) := by decide +kernel
theorem dL_law_221 : decode cL_law 221 = .ok (.goto 454, 3) := by decide +kernel
theorem dL_law_224 : decode cL_law 224 = .ok (.aload_n 1, 1) := by decide +kernel
theorem dL_law_225 : decode cL_law 225 = .ok (.aload_n 0, 1) := by decide +kernel
theorem dL_law_226 : decode cL_law 226 = .ok (.iload_n 3, 1) := by decide +kernel
theorem dL_law_227 : decode cL_law 227 = .ok (.iconst 1, 1) := by decide +kernel
theorem dL_law_228 : decode cL_law 228 = .ok (.iadd, 1) := by decide +kernel
theorem dL_law_229 : decode cL_law 229 = .ok (.iaload, 1) := by decide +kernel
theorem dL_law_230 : decode cL_law 230 = .ok (.aload_n 0, 1) := by decide +kernel
theorem dL_law_231 : decode cL_law 231 = .ok (.iload_n 3, 1) := by decide +kernel
theorem dL_law_232 : decode cL_law 232 = .ok (.iconst 2, 1) := by decide +kernel
theorem dL_law_233 : decode cL_law 233 = .ok (.iadd, 1) := by decide +kernel
theorem dL_law_234 : decode cL_law 234 = .ok (.iaload, 1) := by decide +kernel
theorem dL_law_235 : decode cL_law 235 = .ok (.invokevirtual 32, 3) := by decide +kernel
theorem dL_law_238 : decode cL_law 238 = .ok (.aload_n 2, 1) := by decide +kernel
theorem dL_law_239 : decode cL_law 239 = .ok (.aload_n 0, 1) := by decide +kernel
theorem dL_law_240 : decode cL_law 240 = .ok (.iload_n 3, 1) := by decide +kernel
theorem dL_law_241 : decode cL_law 241 = .ok (.iconst 1, 1) := by decide +kernel
theorem dL_law_242 : decode cL_law 242 = .ok (.iadd, 1) := by decide +kernel
theorem dL_law_243 : decode cL_law 243 = .ok (.iaload, 1) := by decide +kernel
theorem dL_law_244 : decode cL_law 244 = .ok (.aload_n 0, 1) := by decide +kernel
theorem dL_law_245 : decode cL_law 245 = .ok (.iload_n 3, 1) := by decide +kernel
theorem dL_law_246 : decode cL_law 246 = .ok (.iconst 2, 1) := by decide +kernel
theorem dL_law_247 : decode cL_law 247 = .ok (.iadd, 1) := by decide +kernel
theorem dL_law_248 : decode cL_law 248 = .ok (.iaload, 1) := by decide +kernel
theorem dL_law_249 : decode cL_law 249 = .ok (.invokevirtual 35, 3) := by decide +kernel
theorem dL_law_252 : decode cL_law 252 = .ok (.if_icmp .eq 423, 3) := by decide +kernel
theorem dL_law_255 : decode cL_law 255 = .ok (.iconst 0, 1) := by decide +kernel
theorem dL_law_256 : decode cL_law 256 = .ok (.ireturn, 1) := by decide +kernel
theorem dL_law_257 : decode cL_law 257 = .ok (.aload_n 1, 1) := by decide +kernel
theorem dL_law_258 : decode cL_law 258 = .ok (.invokevirtual 36, 3) := by decide +kernel
theorem dL_law_261 : decode cL_law 261 = .ok (.pop, 1) := by decide +kernel
theorem dL_law_262 : decode cL_law 262 = .ok (.aload_n 2, 1) := by decide +kernel
theorem dL_law_263 : decode cL_law 263 = .ok (.invokevirtual 39, 3) := by decide +kernel
theorem dL_law_266 : decode cL_law 266 = .ok (.pop, 1) := by decide +kernel
theorem dL_law_267 : decode cL_law 267 = .ok (.goto 408, 3) := by decide +kernel
theorem dL_law_270 : decode cL_law 270 = .ok (.aload_n 1, 1) := by decide +kernel
theorem dL_law_271 : decode cL_law 271 = .ok (.invokevirtual 40, 3) := by decide +kernel
theorem dL_law_274 : decode cL_law 274 = .ok (.pop, 1) := by decide +kernel
theorem dL_law_275 : decode cL_law 275 = .ok (.aload_n 2, 1) := by decide +kernel
theorem dL_law_276 : decode cL_law 276 = .ok (.invokevirtual 43, 3) := by decide +kernel
theorem dL_law_279 : decode cL_law 279 = .ok (.pop, 1) := by decide +kernel
theorem dL_law_280 : decode cL_law 280 = .ok (.goto 395, 3) := by decide +kernel
theorem dL_law_283 : decode cL_law 283 = .ok (.aload_n 1, 1) := by decide +kernel
theorem dL_law_284 : decode cL_law 284 = .ok (.aload_n 0, 1) := by decide +kernel
theorem dL_law_285 : decode cL_law 285 = .ok (.iload_n 3, 1) := by decide +kernel
theorem dL_law_286 : decode cL_law 286 = .ok (.iconst 1, 1) := by decide +kernel
theorem dL_law_287 : decode cL_law 287 = .ok (.iadd, 1) := by decide +kernel
theorem dL_law_288 : decode cL_law 288 = .ok (.iaload, 1) := by decide +kernel
theorem dL_law_289 : decode cL_law 289 = .ok (.aload_n 0, 1) := by decide +kernel
theorem dL_law_290 : decode cL_law 290 = .ok (.iload_n 3, 1) := by decide +kernel
theorem dL_law_291 : decode cL_law 291 = .ok (.iconst 2, 1) := by decide +kernel
theorem dL_law_292 : decode cL_law 292 = .ok (.iadd, 1) := by decide +kernel
theorem dL_law_293 : decode cL_law 293 = .ok (.iaload, 1) := by decide +kernel
theorem dL_law_294 : decode cL_law 294 = .ok (.aload_n 0, 1) := by decide +kernel
theorem dL_law_295 : decode cL_law 295 = .ok (.iload_n 3, 1) := by decide +kernel
theorem dL_law_296 : decode cL_law 296 = .ok (.iconst 3, 1) := by decide +kernel
theorem dL_law_297 : decode cL_law 297 = .ok (.iadd, 1) := by decide +kernel
theorem dL_law_298 : decode cL_law 298 = .ok (.iaload, 1) := by decide +kernel
theorem dL_law_299 : decode cL_law 299 = .ok (.aload_n 0, 1) := by decide +kernel
theorem dL_law_300 : decode cL_law 300 = .ok (.iload_n 3, 1) := by decide +kernel
theorem dL_law_301 : decode cL_law 301 = .ok (.iconst 4, 1) := by decide +kernel
theorem dL_law_302 : decode cL_law 302 = .ok (.iadd, 1) := by decide +kernel
theorem dL_law_303 : decode cL_law 303 = .ok (.iaload, 1) := by decide +kernel
theorem dL_law_304 : decode cL_law 304 = .ok (.invokevirtual 44, 3) := by decide +kernel
theorem dL_law_307 : decode cL_law 307 = .ok (.pop, 1) := by decide +kernel
theorem dL_law_308 : decode cL_law 308 = .ok (.aload_n 2, 1) := by decide +kernel
theorem dL_law_309 : decode cL_law 309 = .ok (.aload_n 0, 1) := by decide +kernel
theorem dL_law_310 : decode cL_law 310 = .ok (.iload_n 3, 1) := by decide +kernel
theorem dL_law_311 : decode cL_law 311 = .ok (.iconst 1, 1) := by decide +kernel
theorem dL_law_312 : decode cL_law 312 = .ok (.iadd, 1) := by decide +kernel
theorem dL_law_313 : decode cL_law 313 = .ok (.iaload, 1) := by decide +kernel
theorem dL_law_314 : decode cL_law 314 = .ok (.aload_n 0, 1) := by decide +kernel
theorem dL_law_315 : decode cL_law 315 = .ok (.iload_n 3, 1) := by decide +kernel
theorem dL_law_316 : decode cL_law 316 = .ok (.iconst 2, 1) := by decide +kernel
theorem dL_law_317 : decode cL_law 317 = .ok (.iadd, 1) := by decide +kernel
theorem dL_law_318 : decode cL_law 318 = .ok (.iaload, 1) := by decide +kernel
theorem dL_law_319 : decode cL_law 319 = .ok (.aload_n 0, 1) := by decide +kernel
theorem dL_law_320 : decode cL_law 320 = .ok (.iload_n 3, 1) := by decide +kernel
theorem dL_law_321 : decode cL_law 321 = .ok (.iconst 3, 1) := by decide +kernel
theorem dL_law_322 : decode cL_law 322 = .ok (.iadd, 1) := by decide +kernel
theorem dL_law_323 : decode cL_law 323 = .ok (.iaload, 1) := by decide +kernel
theorem dL_law_324 : decode cL_law 324 = .ok (.aload_n 0, 1) := by decide +kernel
theorem dL_law_325 : decode cL_law 325 = .ok (.iload_n 3, 1) := by decide +kernel
theorem dL_law_326 : decode cL_law 326 = .ok (.iconst 4, 1) := by decide +kernel
theorem dL_law_327 : decode cL_law 327 = .ok (.iadd, 1) := by decide +kernel
theorem dL_law_328 : decode cL_law 328 = .ok (.iaload, 1) := by decide +kernel
theorem dL_law_329 : decode cL_law 329 = .ok (.invokevirtual 48, 3) := by decide +kernel
theorem dL_law_332 : decode cL_law 332 = .ok (.pop, 1) := by decide +kernel
theorem dL_law_333 : decode cL_law 333 = .ok (.goto 342, 3) := by decide +kernel
theorem dL_law_336 : decode cL_law 336 = .ok (.aload_n 1, 1) := by decide +kernel
theorem dL_law_337 : decode cL_law 337 = .ok (.aload_n 0, 1) := by decide +kernel
theorem dL_law_338 : decode cL_law 338 = .ok (.iload_n 3, 1) := by decide +kernel
theorem dL_law_339 : decode cL_law 339 = .ok (.iconst 1, 1) := by decide +kernel
theorem dL_law_340 : decode cL_law 340 = .ok (.iadd, 1) := by decide +kernel
theorem dL_law_341 : decode cL_law 341 = .ok (.iaload, 1) := by decide +kernel
theorem dL_law_342 : decode cL_law 342 = .ok (.aload_n 0, 1) := by decide +kernel
theorem dL_law_343 : decode cL_law 343 = .ok (.iload_n 3, 1) := by decide +kernel
theorem dL_law_344 : decode cL_law 344 = .ok (.iconst 2, 1) := by decide +kernel
theorem dL_law_345 : decode cL_law 345 = .ok (.iadd, 1) := by decide +kernel
theorem dL_law_346 : decode cL_law 346 = .ok (.iaload, 1) := by decide +kernel
theorem dL_law_347 : decode cL_law 347 = .ok (.aload_n 0, 1) := by decide +kernel
theorem dL_law_348 : decode cL_law 348 = .ok (.iload_n 3, 1) := by decide +kernel
theorem dL_law_349 : decode cL_law 349 = .ok (.iconst 3, 1) := by decide +kernel
theorem dL_law_350 : decode cL_law 350 = .ok (.iadd, 1) := by decide +kernel
theorem dL_law_351 : decode cL_law 351 = .ok (.iaload, 1) := by decide +kernel
theorem dL_law_352 : decode cL_law 352 = .ok (.aload_n 0, 1) := by decide +kernel
theorem dL_law_353 : decode cL_law 353 = .ok (.iload_n 3, 1) := by decide +kernel
theorem dL_law_354 : decode cL_law 354 = .ok (.iconst 4, 1) := by decide +kernel
theorem dL_law_355 : decode cL_law 355 = .ok (.iadd, 1) := by decide +kernel
theorem dL_law_356 : decode cL_law 356 = .ok (.iaload, 1) := by decide +kernel
theorem dL_law_357 : decode cL_law 357 = .ok (.aload_n 0, 1) := by decide +kernel
theorem dL_law_358 : decode cL_law 358 = .ok (.iload_n 3, 1) := by decide +kernel
theorem dL_law_359 : decode cL_law 359 = .ok (.iconst 5, 1) := by decide +kernel
theorem dL_law_360 : decode cL_law 360 = .ok (.iadd, 1) := by decide +kernel
theorem dL_law_361 : decode cL_law 361 = .ok (.iaload, 1) := by decide +kernel
theorem dL_law_362 : decode cL_law 362 = .ok (.invokevirtual 49, 3) := by decide +kernel
theorem dL_law_365 : decode cL_law 365 = .ok (.pop, 1) := by decide +kernel
theorem dL_law_366 : decode cL_law 366 = .ok (.aload_n 2, 1) := by decide +kernel
theorem dL_law_367 : decode cL_law 367 = .ok (.aload_n 0, 1) := by decide +kernel
theorem dL_law_368 : decode cL_law 368 = .ok (.iload_n 3, 1) := by decide +kernel
theorem dL_law_369 : decode cL_law 369 = .ok (.iconst 1, 1) := by decide +kernel
theorem dL_law_370 : decode cL_law 370 = .ok (.iadd, 1) := by decide +kernel
theorem dL_law_371 : decode cL_law 371 = .ok (.iaload, 1) := by decide +kernel
theorem dL_law_372 : decode cL_law 372 = .ok (.aload_n 0, 1) := by decide +kernel
theorem dL_law_373 : decode cL_law 373 = .ok (.iload_n 3, 1) := by decide +kernel
theorem dL_law_374 : decode cL_law 374 = .ok (.iconst 2, 1) := by decide +kernel
theorem dL_law_375 : decode cL_law 375 = .ok (.iadd, 1) := by decide +kernel
theorem dL_law_376 : decode cL_law 376 = .ok (.iaload, 1) := by decide +kernel
theorem dL_law_377 : decode cL_law 377 = .ok (.aload_n 0, 1) := by decide +kernel
theorem dL_law_378 : decode cL_law 378 = .ok (.iload_n 3, 1) := by decide +kernel
theorem dL_law_379 : decode cL_law 379 = .ok (.iconst 3, 1) := by decide +kernel
theorem dL_law_380 : decode cL_law 380 = .ok (.iadd, 1) := by decide +kernel
theorem dL_law_381 : decode cL_law 381 = .ok (.iaload, 1) := by decide +kernel
theorem dL_law_382 : decode cL_law 382 = .ok (.aload_n 0, 1) := by decide +kernel
theorem dL_law_383 : decode cL_law 383 = .ok (.iload_n 3, 1) := by decide +kernel
theorem dL_law_384 : decode cL_law 384 = .ok (.iconst 4, 1) := by decide +kernel
theorem dL_law_385 : decode cL_law 385 = .ok (.iadd, 1) := by decide +kernel
theorem dL_law_386 : decode cL_law 386 = .ok (.iaload, 1) := by decide +kernel
theorem dL_law_387 : decode cL_law 387 = .ok (.aload_n 0, 1) := by decide +kernel
theorem dL_law_388 : decode cL_law 388 = .ok (.iload_n 3, 1) := by decide +kernel
theorem dL_law_389 : decode cL_law 389 = .ok (.iconst 5, 1) := by decide +kernel
theorem dL_law_390 : decode cL_law 390 = .ok (.iadd, 1) := by decide +kernel
theorem dL_law_391 : decode cL_law 391 = .ok (.iaload, 1) := by decide +kernel
theorem dL_law_392 : decode cL_law 392 = .ok (.invokevirtual 53, 3) := by decide +kernel
theorem dL_law_395 : decode cL_law 395 = .ok (.pop, 1) := by decide +kernel
theorem dL_law_396 : decode cL_law 396 = .ok (.goto 279, 3) := by decide +kernel
theorem dL_law_399 : decode cL_law 399 = .ok (.aload_n 1, 1) := by decide +kernel
theorem dL_law_400 : decode cL_law 400 = .ok (.aload_n 0, 1) := by decide +kernel
theorem dL_law_401 : decode cL_law 401 = .ok (.iload_n 3, 1) := by decide +kernel
theorem dL_law_402 : decode cL_law 402 = .ok (.iconst 1, 1) := by decide +kernel
theorem dL_law_403 : decode cL_law 403 = .ok (.iadd, 1) := by decide +kernel
theorem dL_law_404 : decode cL_law 404 = .ok (.iaload, 1) := by decide +kernel
theorem dL_law_405 : decode cL_law 405 = .ok (.invokevirtual 54, 3) := by decide +kernel
theorem dL_law_408 : decode cL_law 408 = .ok (.pop, 1) := by decide +kernel
theorem dL_law_409 : decode cL_law 409 = .ok (.aload_n 2, 1) := by decide +kernel
theorem dL_law_410 : decode cL_law 410 = .ok (.aload_n 0, 1) := by decide +kernel
theorem dL_law_411 : decode cL_law 411 = .ok (.iload_n 3, 1) := by decide +kernel
theorem dL_law_412 : decode cL_law 412 = .ok (.iconst 1, 1) := by decide +kernel
theorem dL_law_413 : decode cL_law 413 = .ok (.iadd, 1) := by decide +kernel
theorem dL_law_414 : decode cL_law 414 = .ok (.iaload, 1) := by decide +kernel
theorem dL_law_415 : decode cL_law 415 = .ok (.invokevirtual 57, 3) := by decide +kernel
theorem dL_law_418 : decode cL_law 418 = .ok (.pop, 1) := by decide +kernel
theorem dL_law_419 : decode cL_law 419 = .ok (.goto 256, 3) := by decide +kernel
theorem dL_law_422 : decode cL_law 422 = .ok (.aload_n 1, 1) := by decide +kernel
theorem dL_law_423 : decode cL_law 423 = .ok (.invokevirtual 58, 3) := by decide +kernel
theorem dL_law_426 : decode cL_law 426 = .ok (.pop, 1) := by decide +kernel
theorem dL_law_427 : decode cL_law 427 = .ok (.aload_n 2, 1) := by decide +kernel
theorem dL_law_428 : decode cL_law 428 = .ok (.invokevirtual 61, 3) := by decide +kernel
theorem dL_law_431 : decode cL_law 431 = .ok (.pop, 1) := by decide +kernel
theorem dL_law_432 : decode cL_law 432 = .ok (.goto 243, 3) := by decide +kernel
theorem dL_law_435 : decode cL_law 435 = .ok (.aload_n 1, 1) := by decide +kernel
theorem dL_law_436 : decode cL_law 436 = .ok (.aload_n 0, 1) := by decide +kernel
theorem dL_law_437 : decode cL_law 437 = .ok (.iload_n 3, 1) := by decide +kernel
theorem dL_law_438 : decode cL_law 438 = .ok (.iconst 1, 1) := by decide +kernel
theorem dL_law_439 : decode cL_law 439 = .ok (.iadd, 1) := by decide +kernel
theorem dL_law_440 : decode cL_law 440 = .ok (.iaload, 1) := by decide +kernel
theorem dL_law_441 : decode cL_law 441 = .ok (.aload_n 0, 1) := by decide +kernel
theorem dL_law_442 : decode cL_law 442 = .ok (.iload_n 3, 1) := by decide +kernel
theorem dL_law_443 : decode cL_law 443 = .ok (.iconst 2, 1) := by decide +kernel
theorem dL_law_444 : decode cL_law 444 = .ok (.iadd, 1) := by decide +kernel
theorem dL_law_445 : decode cL_law 445 = .ok (.iaload, 1) := by decide +kernel
theorem dL_law_446 : decode cL_law 446 = .ok (.invokevirtual 62, 3) := by decide +kernel
theorem dL_law_449 : decode cL_law 449 = .ok (.pop, 1) := by decide +kernel
theorem dL_law_450 : decode cL_law 450 = .ok (.aload_n 2, 1) := by decide +kernel
theorem dL_law_451 : decode cL_law 451 = .ok (.aload_n 0, 1) := by decide +kernel
theorem dL_law_452 : decode cL_law 452 = .ok (.iload_n 3, 1) := by decide +kernel
theorem dL_law_453 : decode cL_law 453 = .ok (.iconst 1, 1) := by decide +kernel
theorem dL_law_454 : decode cL_law 454 = .ok (.iadd, 1) := by decide +kernel
theorem dL_law_455 : decode cL_law 455 = .ok (.iaload, 1) := by decide +kernel
theorem dL_law_456 : decode cL_law 456 = .ok (.aload_n 0, 1) := by decide +kernel
theorem dL_law_457 : decode cL_law 457 = .ok (.iload_n 3, 1) := by decide +kernel
theorem dL_law_458 : decode cL_law 458 = .ok (.iconst 2, 1) := by decide +kernel
theorem dL_law_459 : decode cL_law 459 = .ok (.iadd, 1) := by decide +kernel
theorem dL_law_460 : decode cL_law 460 = .ok (.iaload, 1) := by decide +kernel
theorem dL_law_461 : decode cL_law 461 = .ok (.invokevirtual 65, 3) := by decide +kernel
theorem dL_law_464 : decode cL_law 464 = .ok (.pop, 1) := by decide +kernel
theorem dL_law_465 : decode cL_law 465 = .ok (.goto 210, 3) := by decide +kernel
theorem dL_law_468 : decode cL_law 468 = .ok (.aload_n 1, 1) := by decide +kernel
theorem dL_law_469 : decode cL_law 469 = .ok (.invokevirtual 66, 3) := by decide +kernel
theorem dL_law_472 : decode cL_law 472 = .ok (.pop, 1) := by decide +kernel
theorem dL_law_473 : decode cL_law 473 = .ok (.aload_n 2, 1) := by decide +kernel
theorem dL_law_474 : decode cL_law 474 = .ok (.invokevirtual 69, 3) := by decide +kernel
theorem dL_law_477 : decode cL_law 477 = .ok (.pop, 1) := by decide +kernel
theorem dL_law_478 : decode cL_law 478 = .ok (.goto 197, 3) := by decide +kernel
theorem dL_law_481 : decode cL_law 481 = .ok (.aload_n 1, 1) := by decide +kernel
theorem dL_law_482 : decode cL_law 482 = .ok (.aload_n 0, 1) := by decide +kernel
theorem dL_law_483 : decode cL_law 483 = .ok (.iload_n 3, 1) := by decide +kernel
theorem dL_law_484 : decode cL_law 484 = .ok (.iconst 1, 1) := by decide +kernel
theorem dL_law_485 : decode cL_law 485 = .ok (.iadd, 1) := by decide +kernel
theorem dL_law_486 : decode cL_law 486 = .ok (.iaload, 1) := by decide +kernel
theorem dL_law_487 : decode cL_law 487 = .ok (.aload_n 0, 1) := by decide +kernel
theorem dL_law_488 : decode cL_law 488 = .ok (.iload_n 3, 1) := by decide +kernel
theorem dL_law_489 : decode cL_law 489 = .ok (.iconst 2, 1) := by decide +kernel
theorem dL_law_490 : decode cL_law 490 = .ok (.iadd, 1) := by decide +kernel
theorem dL_law_491 : decode cL_law 491 = .ok (.iaload, 1) := by decide +kernel
theorem dL_law_492 : decode cL_law 492 = .ok (.invokevirtual 70, 3) := by decide +kernel
theorem dL_law_495 : decode cL_law 495 = .ok (.pop, 1) := by decide +kernel
theorem dL_law_496 : decode cL_law 496 = .ok (.aload_n 2, 1) := by decide +kernel
theorem dL_law_497 : decode cL_law 497 = .ok (.aload_n 0, 1) := by decide +kernel
theorem dL_law_498 : decode cL_law 498 = .ok (.iload_n 3, 1) := by decide +kernel
theorem dL_law_499 : decode cL_law 499 = .ok (.iconst 1, 1) := by decide +kernel
theorem dL_law_500 : decode cL_law 500 = .ok (.iadd, 1) := by decide +kernel
theorem dL_law_501 : decode cL_law 501 = .ok (.iaload, 1) := by decide +kernel
theorem dL_law_502 : decode cL_law 502 = .ok (.aload_n 0, 1) := by decide +kernel
theorem dL_law_503 : decode cL_law 503 = .ok (.iload_n 3, 1) := by decide +kernel
theorem dL_law_504 : decode cL_law 504 = .ok (.iconst 2, 1) := by decide +kernel
theorem dL_law_505 : decode cL_law 505 = .ok (.iadd, 1) := by decide +kernel
theorem dL_law_506 : decode cL_law 506 = .ok (.iaload, 1) := by decide +kernel
theorem dL_law_507 : decode cL_law 507 = .ok (.invokevirtual 73, 3) := by decide +kernel
theorem dL_law_510 : decode cL_law 510 = .ok (.pop, 1) := by decide +kernel
theorem dL_law_511 : decode cL_law 511 = .ok (.goto 164, 3) := by decide +kernel
theorem dL_law_514 : decode cL_law 514 = .ok (.aload_n 1, 1) := by decide +kernel
theorem dL_law_515 : decode cL_law 515 = .ok (.aload_n 0, 1) := by decide +kernel
theorem dL_law_516 : decode cL_law 516 = .ok (.iload_n 3, 1) := by decide +kernel
theorem dL_law_517 : decode cL_law 517 = .ok (.iconst 1, 1) := by decide +kernel
theorem dL_law_518 : decode cL_law 518 = .ok (.iadd, 1) := by decide +kernel
theorem dL_law_519 : decode cL_law 519 = .ok (.iaload, 1) := by decide +kernel
theorem dL_law_520 : decode cL_law 520 = .ok (.invokevirtual 74, 3) := by decide +kernel
theorem dL_law_523 : decode cL_law 523 = .ok (.pop, 1) := by decide +kernel
theorem dL_law_524 : decode cL_law 524 = .ok (.aload_n 2, 1) := by decide +kernel
theorem dL_law_525 : decode cL_law 525 = .ok (.aload_n 0, 1) := by decide +kernel
theorem dL_law_526 : decode cL_law 526 = .ok (.iload_n 3, 1) := by decide +kernel
theorem dL_law_527 : decode cL_law 527 = .ok (.iconst 1, 1) := by decide +kernel
theorem dL_law_528 : decode cL_law 528 = .ok (.iadd, 1) := by decide +kernel
theorem dL_law_529 : decode cL_law 529 = .ok (.iaload, 1) := by decide +kernel
theorem dL_law_530 : decode cL_law 530 = .ok (.invokevirtual 77, 3) := by decide +kernel
theorem dL_law_533 : decode cL_law 533 = .ok (.pop, 1) := by decide +kernel
theorem dL_law_534 : decode cL_law 534 = .ok (.goto 141, 3) := by decide +kernel
theorem dL_law_537 : decode cL_law 537 = .ok (.aload_n 1, 1) := by decide +kernel
theorem dL_law_538 : decode cL_law 538 = .ok (.aload_n 0, 1) := by decide +kernel
theorem dL_law_539 : decode cL_law 539 = .ok (.iload_n 3, 1) := by decide +kernel
theorem dL_law_540 : decode cL_law 540 = .ok (.iconst 1, 1) := by decide +kernel
theorem dL_law_541 : decode cL_law 541 = .ok (.iadd, 1) := by decide +kernel
theorem dL_law_542 : decode cL_law 542 = .ok (.iaload, 1) := by decide +kernel
theorem dL_law_543 : decode cL_law 543 = .ok (.aload_n 0, 1) := by decide +kernel
theorem dL_law_544 : decode cL_law 544 = .ok (.iload_n 3, 1) := by decide +kernel
theorem dL_law_545 : decode cL_law 545 = .ok (.iconst 2, 1) := by decide +kernel
theorem dL_law_546 : decode cL_law 546 = .ok (.iadd, 1) := by decide +kernel
theorem dL_law_547 : decode cL_law 547 = .ok (.iaload, 1) := by decide +kernel
theorem dL_law_548 : decode cL_law 548 = .ok (.invokevirtual 78, 3) := by decide +kernel
theorem dL_law_551 : decode cL_law 551 = .ok (.pop, 1) := by decide +kernel
theorem dL_law_552 : decode cL_law 552 = .ok (.aload_n 2, 1) := by decide +kernel
theorem dL_law_553 : decode cL_law 553 = .ok (.aload_n 0, 1) := by decide +kernel
theorem dL_law_554 : decode cL_law 554 = .ok (.iload_n 3, 1) := by decide +kernel
theorem dL_law_555 : decode cL_law 555 = .ok (.iconst 1, 1) := by decide +kernel
theorem dL_law_556 : decode cL_law 556 = .ok (.iadd, 1) := by decide +kernel
theorem dL_law_557 : decode cL_law 557 = .ok (.iaload, 1) := by decide +kernel
theorem dL_law_558 : decode cL_law 558 = .ok (.aload_n 0, 1) := by decide +kernel
theorem dL_law_559 : decode cL_law 559 = .ok (.iload_n 3, 1) := by decide +kernel
theorem dL_law_560 : decode cL_law 560 = .ok (.iconst 2, 1) := by decide +kernel
theorem dL_law_561 : decode cL_law 561 = .ok (.iadd, 1) := by decide +kernel
theorem dL_law_562 : decode cL_law 562 = .ok (.iaload, 1) := by decide +kernel
theorem dL_law_563 : decode cL_law 563 = .ok (.invokevirtual 81, 3) := by decide +kernel
theorem dL_law_566 : decode cL_law 566 = .ok (.pop, 1) := by decide +kernel
theorem dL_law_567 : decode cL_law 567 = .ok (.goto 108, 3) := by decide +kernel
theorem dL_law_570 : decode cL_law 570 = .ok (.aload_n 1, 1) := by decide +kernel
theorem dL_law_571 : decode cL_law 571 = .ok (.aload_n 0, 1) := by decide +kernel
theorem dL_law_572 : decode cL_law 572 = .ok (.iload_n 3, 1) := by decide +kernel
theorem dL_law_573 : decode cL_law 573 = .ok (.iconst 1, 1) := by decide +kernel
theorem dL_law_574 : decode cL_law 574 = .ok (.iadd, 1) := by decide +kernel
theorem dL_law_575 : decode cL_law 575 = .ok (.iaload, 1) := by decide +kernel
theorem dL_law_576 : decode cL_law 576 = .ok (.invokevirtual 82, 3) := by decide +kernel
theorem dL_law_579 : decode cL_law 579 = .ok (.pop, 1) := by decide +kernel
theorem dL_law_580 : decode cL_law 580 = .ok (.aload_n 2, 1) := by decide +kernel
theorem dL_law_581 : decode cL_law 581 = .ok (.aload_n 0, 1) := by decide +kernel
theorem dL_law_582 : decode cL_law 582 = .ok (.iload_n 3, 1) := by decide +kernel
theorem dL_law_583 : decode cL_law 583 = .ok (.iconst 1, 1) := by decide +kernel
theorem dL_law_584 : decode cL_law 584 = .ok (.iadd, 1) := by decide +kernel
theorem dL_law_585 : decode cL_law 585 = .ok (.iaload, 1) := by decide +kernel
theorem dL_law_586 : decode cL_law 586 = .ok (.invokevirtual 85, 3) := by decide +kernel
theorem dL_law_589 : decode cL_law 589 = .ok (.pop, 1) := by decide +kernel
theorem dL_law_590 : decode cL_law 590 = .ok (.goto 85, 3) := by decide +kernel
theorem dL_law_593 : decode cL_law 593 = .ok (.aload_n 1, 1) := by decide +kernel
theorem dL_law_594 : decode cL_law 594 = .ok (.aload_n 0, 1) := by decide +kernel
theorem dL_law_595 : decode cL_law 595 = .ok (.iload_n 3, 1) := by decide +kernel
theorem dL_law_596 : decode cL_law 596 = .ok (.iconst 1, 1) := by decide +kernel
theorem dL_law_597 : decode cL_law 597 = .ok (.iadd, 1) := by decide +kernel
theorem dL_law_598 : decode cL_law 598 = .ok (.iaload, 1) := by decide +kernel
theorem dL_law_599 : decode cL_law 599 = .ok (.aload_n 0, 1) := by decide +kernel
theorem dL_law_600 : decode cL_law 600 = .ok (.iload_n 3, 1) := by decide +kernel
theorem dL_law_601 : decode cL_law 601 = .ok (.iconst 2, 1) := by decide +kernel
theorem dL_law_602 : decode cL_law 602 = .ok (.iadd, 1) := by decide +kernel
theorem dL_law_603 : decode cL_law 603 = .ok (.iaload, 1) := by decide +kernel
theorem dL_law_604 : decode cL_law 604 = .ok (.invokevirtual 86, 3) := by decide +kernel
theorem dL_law_607 : decode cL_law 607 = .ok (.pop, 1) := by decide +kernel
theorem dL_law_608 : decode cL_law 608 = .ok (.aload_n 2, 1) := by decide +kernel
theorem dL_law_609 : decode cL_law 609 = .ok (.aload_n 0, 1) := by decide +kernel
theorem dL_law_610 : decode cL_law 610 = .ok (.iload_n 3, 1) := by decide +kernel
theorem dL_law_611 : decode cL_law 611 = .ok (.iconst 1, 1) := by decide +kernel
theorem dL_law_612 : decode cL_law 612 = .ok (.iadd, 1) := by decide +kernel
theorem dL_law_613 : decode cL_law 613 = .ok (.iaload, 1) := by decide +kernel
theorem dL_law_614 : decode cL_law 614 = .ok (.aload_n 0, 1) := by decide +kernel
theorem dL_law_615 : decode cL_law 615 = .ok (.iload_n 3, 1) := by decide +kernel
theorem dL_law_616 : decode cL_law 616 = .ok (.iconst 2, 1) := by decide +kernel
theorem dL_law_617 : decode cL_law 617 = .ok (.iadd, 1) := by decide +kernel
theorem dL_law_618 : decode cL_law 618 = .ok (.iaload, 1) := by decide +kernel
theorem dL_law_619 : decode cL_law 619 = .ok (.invokevirtual 89, 3) := by decide +kernel
theorem dL_law_622 : decode cL_law 622 = .ok (.pop, 1) := by decide +kernel
theorem dL_law_623 : decode cL_law 623 = .ok (.goto 52, 3) := by decide +kernel
theorem dL_law_626 : decode cL_law 626 = .ok (.aload_n 1, 1) := by decide +kernel
theorem dL_law_627 : decode cL_law 627 = .ok (.invokevirtual 90, 3) := by decide +kernel
theorem dL_law_630 : decode cL_law 630 = .ok (.pop, 1) := by decide +kernel
theorem dL_law_631 : decode cL_law 631 = .ok (.aload_n 2, 1) := by decide +kernel
theorem dL_law_632 : decode cL_law 632 = .ok (.invokevirtual 93, 3) := by decide +kernel
theorem dL_law_635 : decode cL_law 635 = .ok (.pop, 1) := by decide +kernel
theorem dL_law_636 : decode cL_law 636 = .ok (.goto 39, 3) := by decide +kernel
theorem dL_law_639 : decode cL_law 639 = .ok (.aload_n 1, 1) := by decide +kernel
theorem dL_law_640 : decode cL_law 640 = .ok (.aload_n 0, 1) := by decide +kernel
theorem dL_law_641 : decode cL_law 641 = .ok (.iload_n 3, 1) := by decide +kernel
theorem dL_law_642 : decode cL_law 642 = .ok (.iconst 1, 1) := by decide +kernel
theorem dL_law_643 : decode cL_law 643 = .ok (.iadd, 1) := by decide +kernel
theorem dL_law_644 : decode cL_law 644 = .ok (.iaload, 1) := by decide +kernel
theorem dL_law_645 : decode cL_law 645 = .ok (.invokevirtual 94, 3) := by decide +kernel
theorem dL_law_648 : decode cL_law 648 = .ok (.pop, 1) := by decide +kernel
theorem dL_law_649 : decode cL_law 649 = .ok (.aload_n 2, 1) := by decide +kernel
theorem dL_law_650 : decode cL_law 650 = .ok (.aload_n 0, 1) := by decide +kernel
theorem dL_law_651 : decode cL_law 651 = .ok (.iload_n 3, 1) := by decide +kernel
theorem dL_law_652 : decode cL_law 652 = .ok (.iconst 1, 1) := by decide +kernel
theorem dL_law_653 : decode cL_law 653 = .ok (.iadd, 1) := by decide +kernel
theorem dL_law_654 : decode cL_law 654 = .ok (.iaload, 1) := by decide +kernel
theorem dL_law_655 : decode cL_law 655 = .ok (.invokevirtual 97, 3) := by decide +kernel
theorem dL_law_658 : decode cL_law 658 = .ok (.pop, 1) := by decide +kernel
theorem dL_law_659 : decode cL_law 659 = .ok (.goto 16, 3) := by decide +kernel
theorem dL_law_662 : decode cL_law 662 = .ok (.aload_n 1, 1) := by decide +kernel
theorem dL_law_663 : decode cL_law 663 = .ok (.invokevirtual 98, 3) := by decide +kernel
theorem dL_law_666 : decode cL_law 666 = .ok (.pop, 1) := by decide +kernel
theorem dL_law_667 : decode cL_law 667 = .ok (.aload_n 2, 1) := by decide +kernel
theorem dL_law_668 : decode cL_law 668 = .ok (.invokevirtual 101, 3) := by decide +kernel
theorem dL_law_671 : decode cL_law 671 = .ok (.pop, 1) := by decide +kernel
theorem dL_law_672 : decode cL_law 672 = .ok (.goto 3, 3) := by decide +kernel
theorem dL_law_675 : decode cL_law 675 = .ok (.iinc 3 6, 3) := by decide +kernel
theorem dL_law_678 : decode cL_law 678 = .ok (.goto (-660), 3) := by decide +kernel
theorem dL_law_681 : decode cL_law 681 = .ok (.iconst 1, 1) := by decide +kernel
theorem dL_law_682 : decode cL_law 682 = .ok (.ireturn, 1) := by decide +kernel
