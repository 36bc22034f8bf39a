theorem dX8_apart_86 : decode cX8_apart 86 = .ok (.istore_n 3, 1) := by decide +kernel
theorem dX8_apart_87 : decode cX8_apart 87 = .ok (.iload_n 3, 1) := by decide +kernel
theorem dX8_apart_88 : decode cX8_apart 88 = .ok (.ifCond .ne 6, 3) := by decide +kernel
theorem dX8_apart_91 : decode cX8_apart 91 = .ok (.bipush (-6), 2) := by decide +kernel
theorem dX8_apart_93 : decode cX8_apart 93 = .ok (.ireturn, 1) := by decide +kernel
theorem dX8_apart_94 : decode cX8_apart 94 = .ok (.aload_n 0, 1) := by decide +kernel
theorem dX8_apart_95 : decode cX8_apart 95 = .ok (.getfield 26, 3) := by decide +kernel
theorem dX8_apart_98 : decode cX8_apart 98 = .ok (.invokevirtual 183, 3) := by decide +kernel
theorem dX8_apart_101 : decode cX8_apart 101 = .ok (.aload_n 0, 1) := by decide +kernel
theorem dX8_apart_102 : decode cX8_apart 102 = .ok (.getfield 30, 3) := by decide +kernel
theorem dX8_apart_105 : decode cX8_apart 105 = .ok (.invokevirtual 183, 3) := by decide +kernel
theorem dX8_apart_108 : decode cX8_apart 108 = .ok (.if_icmp .ne 10, 3) := by decide +kernel
theorem dX8_apart_111 : decode cX8_apart 111 = .ok (.aload_n 0, 1) := by decide +kernel
theorem dX8_apart_112 : decode cX8_apart 112 = .ok (.invokevirtual 186, 3) := by decide +kernel
theorem dX8_apart_115 : decode cX8_apart 115 = .ok (.goto 4, 3) := by decide +kernel
theorem dX8_apart_118 : decode cX8_apart 118 = .ok (.iconst 0, 1) := by decide +kernel
theorem dX8_apart_119 : decode cX8_apart 119 = .ok (.ireturn, 1) := by decide +kernel
theorem dX8_take_0 : decode cX8_take 0 = .ok (.aload_n 0, 1) := by decide +kernel
theorem dX8_take_1 : decode cX8_take 1 = .ok (.getfield 43, 3) := by decide +kernel
theorem dX8_take_4 : decode cX8_take 4 = .ok (.iload_n 1, 1) := by decide +kernel
theorem dX8_take_5 : decode cX8_take 5 = .ok (.invokevirtual 166, 3) := by decide +kernel
theorem dX8_take_8 : decode cX8_take 8 = .ok (.ifCond .ne 10, 3) := by decide +kernel
theorem dX8_take_11 : decode cX8_take 11 = .ok (.aload_n 0, 1) := by decide +kernel
theorem dX8_take_12 : decode cX8_take 12 = .ok (.bipush (-2), 2) := by decide +kernel
theorem dX8_take_14 : decode cX8_take 14 = .ok (.invokevirtual 62, 3) := by decide +kernel
theorem dX8_take_17 : decode cX8_take 17 = .ok (.ireturn, 1) := by decide +kernel
theorem dX8_take_18 : decode cX8_take 18 = .ok (.aload_n 0, 1) := by decide +kernel
theorem dX8_take_19 : decode cX8_take 19 = .ok (.getfield 43, 3) := by decide +kernel
theorem dX8_take_22 : decode cX8_take 22 = .ok (.iload_n 1, 1) := by decide +kernel
theorem dX8_take_23 : decode cX8_take 23 = .ok (.invokevirtual 169, 3) := by decide +kernel
theorem dX8_take_26 : decode cX8_take 26 = .ok (.bipush 10, 2) := by decide +kernel
theorem dX8_take_28 : decode cX8_take 28 = .ok (.if_icmp .le 10, 3) := by decide +kernel
theorem dX8_take_31 : decode cX8_take 31 = .ok (.aload_n 0, 1) := by decide +kernel
theorem dX8_take_32 : decode cX8_take 32 = .ok (.bipush (-5), 2) := by decide +kernel
theorem dX8_take_34 : decode cX8_take 34 = .ok (.invokevirtual 62, 3) := by decide +kernel
theorem dX8_take_37 : decode cX8_take 37 = .ok (.ireturn, 1) := by decide +kernel
theorem dX8_take_38 : decode cX8_take 38 = .ok (.aload_n 0, 1) := by decide +kernel
theorem dX8_take_39 : decode cX8_take 39 = .ok (.getfield 43, 3) := by decide +kernel
theorem dX8_take_42 : decode cX8_take 42 = .ok (.iload_n 1, 1) := by decide +kernel
theorem dX8_take_43 : decode cX8_take 43 = .ok (.aload_n 0, 1) := by decide +kernel
theorem dX8_take_44 : decode cX8_take 44 = .ok (.getfield 10, 3) := by decide +kernel
theorem dX8_take_47 : decode cX8_take 47 = .ok (.invokevirtual 179, 3) := by decide +kernel
theorem dX8_take_50 : decode cX8_take 50 = .ok (.aload_n 0, 1) := by decide +kernel
theorem dX8_take_51 : decode cX8_take 51 = .ok (.getfield 43, 3) := by decide +kernel
theorem dX8_take_54 : decode cX8_take 54 = .ok (.aload_n 0, 1) := by decide +kernel
theorem dX8_take_55 : decode cX8_take 55 = .ok (.getfield 10, 3) := by decide +kernel
theorem dX8_take_58 : decode cX8_take 58 = .ok (.invokevirtual 189, 3) := by decide +kernel
theorem dX8_take_61 : decode cX8_take 61 = .ok (.aload_n 0, 1) := by decide +kernel
theorem dX8_take_62 : decode cX8_take 62 = .ok (.getfield 43, 3) := by decide +kernel
theorem dX8_take_65 : decode cX8_take 65 = .ok (.invokevirtual 160, 3) := by decide +kernel
theorem dX8_take_68 : decode cX8_take 68 = .ok (.aload_n 0, 1) := by decide +kernel
theorem dX8_take_69 : decode cX8_take 69 = .ok (.aload_n 0, 1) := by decide +kernel
theorem dX8_take_70 : decode cX8_take 70 = .ok (.getfield 10, 3) := by decide +kernel
theorem dX8_take_73 : decode cX8_take 73 = .ok (.invokevirtual 66, 3) := by decide +kernel
theorem dX8_take_76 : decode cX8_take 76 = .ok (.invokevirtual 74, 3) := by decide +kernel
theorem dX8_take_79 : decode cX8_take 79 = .ok (.ireturn, 1) := by decide +kernel
theorem dX8_habit_0 : decode cX8_habit 0 = .ok (.iload_n 1, 1) := by decide +kernel
theorem dX8_habit_1 : decode cX8_habit 1 = .ok (.invokestatic 58, 3) := by decide +kernel
theorem dX8_habit_4 : decode cX8_habit 4 = .ok (.ifCond .ne 5, 3) := by decide +kernel
theorem dX8_habit_7 : decode cX8_habit 7 = .ok (.iconst (-1), 1) := by decide +kernel
theorem dX8_habit_8 : decode cX8_habit 8 = .ok (.ireturn, 1) := by decide +kernel
theorem dX8_habit_9 : decode cX8_habit 9 = .ok (.iload_n 2, 1) := by decide +kernel
theorem dX8_habit_10 : decode cX8_habit 10 = .ok (.lookupswitch 50 #[(0, 26), (1, 38)], 26) := by decide +kernel
theorem dX8_habit_36 : decode cX8_habit 36 = .ok (.aload_n 0, 1) := by decide +kernel
theorem dX8_habit_37 : decode cX8_habit 37 = .ok (.getfield 43, 3) := by decide +kernel
theorem dX8_habit_40 : decode cX8_habit 40 = .ok (.getfield 192, 3) := by decide +kernel
theorem dX8_habit_43 : decode cX8_habit 43 = .ok (.iload_n 1, 1) := by decide +kernel
theorem dX8_habit_44 : decode cX8_habit 44 = .ok (.invokevirtual 196, 3) := by decide +kernel
theorem dX8_habit_47 : decode cX8_habit 47 = .ok (.ireturn, 1) := by decide +kernel
theorem dX8_habit_48 : decode cX8_habit 48 = .ok (.aload_n 0, 1) := by decide +kernel
theorem dX8_habit_49 : decode cX8_habit 49 = .ok (.getfield 43, 3) := by decide +kernel
theorem dX8_habit_52 : decode cX8_habit 52 = .ok (.getfield 192, 3) := by decide +kernel
theorem dX8_habit_55 : decode cX8_habit 55 = .ok (.iload_n 1, 1) := by decide +kernel
theorem dX8_habit_56 : decode cX8_habit 56 = .ok (.invokevirtual 201, 3) := by decide +kernel
theorem dX8_habit_59 : decode cX8_habit 59 = .ok (.ireturn, 1) := by decide +kernel
theorem dX8_habit_60 : decode cX8_habit 60 = .ok (.iconst (-1), 1) := by decide +kernel
theorem dX8_habit_61 : decode cX8_habit 61 = .ok (.ireturn, 1) := by decide +kernel
theorem dX8_forget_0 : decode cX8_forget 0 = .ok (.aload_n 0, 1) := by decide +kernel
theorem dX8_forget_1 : decode cX8_forget 1 = .ok (.getfield 43, 3) := by decide +kernel
theorem dX8_forget_4 : decode cX8_forget 4 = .ok (.getfield 192, 3) := by decide +kernel
theorem dX8_forget_7 : decode cX8_forget 7 = .ok (.invokevirtual 204, 3) := by decide +kernel
theorem dX8_forget_10 : decode cX8_forget 10 = .ok (.iconst 0, 1) := by decide +kernel
theorem dX8_forget_11 : decode cX8_forget 11 = .ok (.ireturn, 1) := by decide +kernel
theorem dX8_count_0 : decode cX8_count 0 = .ok (.iload_n 1, 1) := by decide +kernel
theorem dX8_count_1 : decode cX8_count 1 = .ok (.tableswitch 54 0 2 #[27, 35, 46], 27) := by decide +kernel
theorem dX8_count_28 : decode cX8_count 28 = .ok (.aload_n 0, 1) := by decide +kernel
theorem dX8_count_29 : decode cX8_count 29 = .ok (.getfield 10, 3) := by decide +kernel
theorem dX8_count_32 : decode cX8_count 32 = .ok (.invokevirtual 66, 3) := by decide +kernel
theorem dX8_count_35 : decode cX8_count 35 = .ok (.ireturn, 1) := by decide +kernel
theorem dX8_count_36 : decode cX8_count 36 = .ok (.aload_n 0, 1) := by decide +kernel
theorem dX8_count_37 : decode cX8_count 37 = .ok (.getfield 36, 3) := by decide +kernel
theorem dX8_count_40 : decode cX8_count 40 = .ok (.getfield 126, 3) := by decide +kernel
theorem dX8_count_43 : decode cX8_count 43 = .ok (.invokevirtual 130, 3) := by decide +kernel
theorem dX8_count_46 : decode cX8_count 46 = .ok (.ireturn, 1) := by decide +kernel
theorem dX8_count_47 : decode cX8_count 47 = .ok (.aload_n 0, 1) := by decide +kernel
theorem dX8_count_48 : decode cX8_count 48 = .ok (.getfield 43, 3) := by decide +kernel
theorem dX8_count_51 : decode cX8_count 51 = .ok (.invokevirtual 148, 3) := by decide +kernel
theorem dX8_count_54 : decode cX8_count 54 = .ok (.ireturn, 1) := by decide +kernel
theorem dX8_count_55 : decode cX8_count 55 = .ok (.iconst (-1), 1) := by decide +kernel
theorem dX8_count_56 : decode cX8_count 56 = .ok (.ireturn, 1) := by decide +kernel
theorem dX8_status_0 : decode cX8_status 0 = .ok (.aload_n 0, 1) := by decide +kernel
theorem dX8_status_1 : decode cX8_status 1 = .ok (.getfield 54, 3) := by decide +kernel
theorem dX8_status_4 : decode cX8_status 4 = .ok (.ireturn, 1) := by decide +kernel
theorem dX8_refuse_0 : decode cX8_refuse 0 = .ok (.aload_n 0, 1) := by decide +kernel
theorem dX8_refuse_1 : decode cX8_refuse 1 = .ok (.iload_n 1, 1) := by decide +kernel
theorem dX8_refuse_2 : decode cX8_refuse 2 = .ok (.putfield 54, 3) := by decide +kernel
theorem dX8_refuse_5 : decode cX8_refuse 5 = .ok (.iload_n 1, 1) := by decide +kernel
theorem dX8_refuse_6 : decode cX8_refuse 6 = .ok (.ireturn, 1) := by decide +kernel
theorem dX8_accept_0 : decode cX8_accept 0 = .ok (.aload_n 0, 1) := by decide +kernel
theorem dX8_accept_1 : decode cX8_accept 1 = .ok (.iconst 0, 1) := by decide +kernel
theorem dX8_accept_2 : decode cX8_accept 2 = .ok (.putfield 54, 3) := by decide +kernel
theorem dX8_accept_5 : decode cX8_accept 5 = .ok (.iload_n 1, 1) := by decide +kernel
theorem dX8_accept_6 : decode cX8_accept 6 = .ok (.ireturn, 1) := by decide +kernel
theorem dX8_understood_0 : decode cX8_understood 0 = .ok (.aload_n 1, 1) := by decide +kernel
theorem dX8_understood_1 : decode cX8_understood 1 = .ok (.invokestatic 96, 3) := by decide +kernel
theorem dX8_understood_4 : decode cX8_understood 4 = .ok (.iconst (-1), 1) := by decide +kernel
theorem dX8_understood_5 : decode cX8_understood 5 = .ok (.if_icmp .ne 23, 3) := by decide +kernel
theorem dX8_understood_8 : decode cX8_understood 8 = .ok (.aload_n 2, 1) := by decide +kernel
theorem dX8_understood_9 : decode cX8_understood 9 = .ok (.aload_n 1, 1) := by decide +kernel
theorem dX8_understood_10 : decode cX8_understood 10 = .ok (.aload_n 0, 1) := by decide +kernel
theorem dX8_understood_11 : decode cX8_understood 11 = .ok (.getfield 36, 3) := by decide +kernel
theorem dX8_understood_14 : decode cX8_understood 14 = .ok (.getfield 93, 3) := by decide +kernel
theorem dX8_understood_17 : decode cX8_understood 17 = .ok (.invokevirtual 102, 3) := by decide +kernel
theorem dX8_understood_20 : decode cX8_understood 20 = .ok (.iconst (-1), 1) := by decide +kernel
theorem dX8_understood_21 : decode cX8_understood 21 = .ok (.if_icmp .eq 7, 3) := by decide +kernel
theorem dX8_understood_24 : decode cX8_understood 24 = .ok (.iconst 1, 1) := by decide +kernel
theorem dX8_understood_25 : decode cX8_understood 25 = .ok (.goto 4, 3) := by decide +kernel
theorem dX8_understood_28 : decode cX8_understood 28 = .ok (.iconst 0, 1) := by decide +kernel
theorem dX8_understood_29 : decode cX8_understood 29 = .ok (.ireturn, 1) := by decide +kernel
theorem dX8_setInputs_0 : decode cX8_setInputs 0 = .ok (.aload_n 0, 1) := by decide +kernel
theorem dX8_setInputs_1 : decode cX8_setInputs 1 = .ok (.getfield 19, 3) := by decide +kernel
theorem dX8_setInputs_4 : decode cX8_setInputs 4 = .ok (.iconst 0, 1) := by decide +kernel
theorem dX8_setInputs_5 : decode cX8_setInputs 5 = .ok (.iload_n 1, 1) := by decide +kernel
theorem dX8_setInputs_6 : decode cX8_setInputs 6 = .ok (.iastore, 1) := by decide +kernel
theorem dX8_setInputs_7 : decode cX8_setInputs 7 = .ok (.aload_n 0, 1) := by decide +kernel
theorem dX8_setInputs_8 : decode cX8_setInputs 8 = .ok (.getfield 19, 3) := by decide +kernel
theorem dX8_setInputs_11 : decode cX8_setInputs 11 = .ok (.iconst 1, 1) := by decide +kernel
theorem dX8_setInputs_12 : decode cX8_setInputs 12 = .ok (.iload_n 2, 1) := by decide +kernel
theorem dX8_setInputs_13 : decode cX8_setInputs 13 = .ok (.iastore, 1) := by decide +kernel
theorem dX8_setInputs_14 : decode cX8_setInputs 14 = .ok (.aload_n 0, 1) := by decide +kernel
theorem dX8_setInputs_15 : decode cX8_setInputs 15 = .ok (.getfield 19, 3) := by decide +kernel
theorem dX8_setInputs_18 : decode cX8_setInputs 18 = .ok (.iconst 2, 1) := by decide +kernel
theorem dX8_setInputs_19 : decode cX8_setInputs 19 = .ok (.iload_n 3, 1) := by decide +kernel
theorem dX8_setInputs_20 : decode cX8_setInputs 20 = .ok (.iastore, 1) := by decide +kernel
theorem dX8_setInputs_21 : decode cX8_setInputs 21 = .ok (.aload_n 0, 1) := by decide +kernel
theorem dX8_setInputs_22 : decode cX8_setInputs 22 = .ok (.getfield 19, 3) := by decide +kernel
theorem dX8_setInputs_25 : decode cX8_setInputs 25 = .ok (.iconst 3, 1) := by decide +kernel
theorem dX8_setInputs_26 : decode cX8_setInputs 26 = .ok (.iload 4, 2) := by decide +kernel
theorem dX8_setInputs_28 : decode cX8_setInputs 28 = .ok (.iastore, 1) := by decide +kernel
theorem dX8_setInputs_29 : decode cX8_setInputs 29 = .ok (.return_, 1) := by decide +kernel
theorem dX8_firstUnlikeInput_0 : decode cX8_firstUnlikeInput 0 = .ok (.iconst 0, 1) := by decide +kernel
theorem dX8_firstUnlikeInput_1 : decode cX8_firstUnlikeInput 1 = .ok (.istore_n 1, 1) := by decide +kernel
theorem dX8_firstUnlikeInput_2 : decode cX8_firstUnlikeInput 2 = .ok (.iload_n 1, 1) := by decide +kernel
theorem dX8_firstUnlikeInput_3 : decode cX8_firstUnlikeInput 3 = .ok (.sipush 625, 3) := by decide +kernel
theorem dX8_firstUnlikeInput_6 : decode cX8_firstUnlikeInput 6 = .ok (.if_icmp .ge 68, 3) := by decide +kernel
theorem dX8_firstUnlikeInput_9 : decode cX8_firstUnlikeInput 9 = .ok (.aload_n 0, 1) := by decide +kernel
theorem dX8_firstUnlikeInput_10 : decode cX8_firstUnlikeInput 10 = .ok (.iload_n 1, 1) := by decide +kernel
theorem dX8_firstUnlikeInput_11 : decode cX8_firstUnlikeInput 11 = .ok (.bipush 125, 2) := by decide +kernel
theorem dX8_firstUnlikeInput_13 : decode cX8_firstUnlikeInput 13 = .ok (.idiv, 1) := by decide +kernel
theorem dX8_firstUnlikeInput_14 : decode cX8_firstUnlikeInput 14 = .ok (.iconst 2, 1) := by decide +kernel
theorem dX8_firstUnlikeInput_15 : decode cX8_firstUnlikeInput 15 = .ok (.isub, 1) := by decide +kernel
theorem dX8_firstUnlikeInput_16 : decode cX8_firstUnlikeInput 16 = .ok (.iload_n 1, 1) := by decide +kernel
theorem dX8_firstUnlikeInput_17 : decode cX8_firstUnlikeInput 17 = .ok (.bipush 25, 2) := by decide +kernel
theorem dX8_firstUnlikeInput_19 : decode cX8_firstUnlikeInput 19 = .ok (.idiv, 1) := by decide +kernel
theorem dX8_firstUnlikeInput_20 : decode cX8_firstUnlikeInput 20 = .ok (.iconst 5, 1) := by decide +kernel
theorem dX8_firstUnlikeInput_21 : decode cX8_firstUnlikeInput 21 = .ok (.irem, 1) := by decide +kernel
theorem dX8_firstUnlikeInput_22 : decode cX8_firstUnlikeInput 22 = .ok (.iconst 2, 1) := by decide +kernel
theorem dX8_firstUnlikeInput_23 : decode cX8_firstUnlikeInput 23 = .ok (.isub, 1) := by decide +kernel
theorem dX8_firstUnlikeInput_24 : decode cX8_firstUnlikeInput 24 = .ok (.iload_n 1, 1) := by decide +kernel
theorem dX8_firstUnlikeInput_25 : decode cX8_firstUnlikeInput 25 = .ok (.iconst 5, 1) := by decide +kernel
theorem dX8_firstUnlikeInput_26 : decode cX8_firstUnlikeInput 26 = .ok (.idiv, 1) := by decide +kernel
theorem dX8_firstUnlikeInput_27 : decode cX8_firstUnlikeInput 27 = .ok (.iconst 5, 1) := by decide +kernel
theorem dX8_firstUnlikeInput_28 : decode cX8_firstUnlikeInput 28 = .ok (.irem, 1) := by decide +kernel
theorem dX8_firstUnlikeInput_29 : decode cX8_firstUnlikeInput 29 = .ok (.iconst 2, 1) := by decide +kernel
theorem dX8_firstUnlikeInput_30 : decode cX8_firstUnlikeInput 30 = .ok (.isub, 1) := by decide +kernel
theorem dX8_firstUnlikeInput_31 : decode cX8_firstUnlikeInput 31 = .ok (.iload_n 1, 1) := by decide +kernel
theorem dX8_firstUnlikeInput_32 : decode cX8_firstUnlikeInput 32 = .ok (.iconst 5, 1) := by decide +kernel
theorem dX8_firstUnlikeInput_33 : decode cX8_firstUnlikeInput 33 = .ok (.irem, 1) := by decide +kernel
theorem dX8_firstUnlikeInput_34 : decode cX8_firstUnlikeInput 34 = .ok (.iconst 2, 1) := by decide +kernel
theorem dX8_firstUnlikeInput_35 : decode cX8_firstUnlikeInput 35 = .ok (.isub, 1) := by decide +kernel
theorem dX8_firstUnlikeInput_36 : decode cX8_firstUnlikeInput 36 = .ok (.invokevirtual 111, 3) := by decide +kernel
theorem dX8_firstUnlikeInput_39 : decode cX8_firstUnlikeInput 39 = .ok (.aload_n 0, 1) := by decide +kernel
theorem dX8_firstUnlikeInput_40 : decode cX8_firstUnlikeInput 40 = .ok (.getfield 26, 3) := by decide +kernel
theorem dX8_firstUnlikeInput_43 : decode cX8_firstUnlikeInput 43 = .ok (.aload_n 0, 1) := by decide +kernel
theorem dX8_firstUnlikeInput_44 : decode cX8_firstUnlikeInput 44 = .ok (.getfield 19, 3) := by decide +kernel
theorem dX8_firstUnlikeInput_47 : decode cX8_firstUnlikeInput 47 = .ok (.iconst 0, 1) := by decide +kernel
theorem dX8_firstUnlikeInput_48 : decode cX8_firstUnlikeInput 48 = .ok (.invokevirtual 115, 3) := by decide +kernel
theorem dX8_firstUnlikeInput_51 : decode cX8_firstUnlikeInput 51 = .ok (.aload_n 0, 1) := by decide +kernel
theorem dX8_firstUnlikeInput_52 : decode cX8_firstUnlikeInput 52 = .ok (.getfield 30, 3) := by decide +kernel
theorem dX8_firstUnlikeInput_55 : decode cX8_firstUnlikeInput 55 = .ok (.aload_n 0, 1) := by decide +kernel
theorem dX8_firstUnlikeInput_56 : decode cX8_firstUnlikeInput 56 = .ok (.getfield 19, 3) := by decide +kernel
theorem dX8_firstUnlikeInput_59 : decode cX8_firstUnlikeInput 59 = .ok (.iconst 0, 1) := by decide +kernel
theorem dX8_firstUnlikeInput_60 : decode cX8_firstUnlikeInput 60 = .ok (.invokevirtual 115, 3) := by decide +kernel
theorem dX8_firstUnlikeInput_63 : decode cX8_firstUnlikeInput 63 = .ok (.if_icmp .eq 5, 3) := by decide +kernel
theorem dX8_firstUnlikeInput_66 : decode cX8_firstUnlikeInput 66 = .ok (.iload_n 1, 1) := by decide +kernel
theorem dX8_firstUnlikeInput_67 : decode cX8_firstUnlikeInput 67 = .ok (.ireturn, 1) := by decide +kernel
theorem dX8_firstUnlikeInput_68 : decode cX8_firstUnlikeInput 68 = .ok (.iinc 1 1, 3) := by decide +kernel
theorem dX8_firstUnlikeInput_71 : decode cX8_firstUnlikeInput 71 = .ok (.goto (-69), 3) := by decide +kernel
theorem dX8_firstUnlikeInput_74 : decode cX8_firstUnlikeInput 74 = .ok (.iconst (-1), 1) := by decide +kernel
theorem dX8_firstUnlikeInput_75 : decode cX8_firstUnlikeInput 75 = .ok (.ireturn, 1) := by decide +kernel
theorem dX8_isToken_0 : decode cX8_isToken 0 = .ok (.iload_n 0, 1) := by decide +kernel
theorem dX8_isToken_1 : decode cX8_isToken 1 = .ok (.ifCond .lt 13, 3) := by decide +kernel
theorem dX8_isToken_4 : decode cX8_isToken 4 = .ok (.iload_n 0, 1) := by decide +kernel
theorem dX8_isToken_5 : decode cX8_isToken 5 = .ok (.bipush 28, 2) := by decide +kernel
theorem dX8_isToken_7 : decode cX8_isToken 7 = .ok (.if_icmp .ge 7, 3) := by decide +kernel
theorem dX8_isToken_10 : decode cX8_isToken 10 = .ok (.iconst 1, 1) := by decide +kernel
theorem dX8_isToken_11 : decode cX8_isToken 11 = .ok (.goto 4, 3) := by decide +kernel
theorem dX8_isToken_14 : decode cX8_isToken 14 = .ok (.iconst 0, 1) := by decide +kernel
theorem dX8_isToken_15 : decode cX8_isToken 15 = .ok (.ireturn, 1) := by decide +kernel
theorem dX8_isKind_0 : decode cX8_isKind 0 = .ok (.iload_n 0, 1) := by decide +kernel
theorem dX8_isKind_1 : decode cX8_isKind 1 = .ok (.ifCond .eq 8, 3) := by decide +kernel
theorem dX8_isKind_4 : decode cX8_isKind 4 = .ok (.iload_n 0, 1) := by decide +kernel
theorem dX8_isKind_5 : decode cX8_isKind 5 = .ok (.iconst 1, 1) := by decide +kernel
theorem dX8_isKind_6 : decode cX8_isKind 6 = .ok (.if_icmp .ne 7, 3) := by decide +kernel
theorem dX8_isKind_9 : decode cX8_isKind 9 = .ok (.iconst 1, 1) := by decide +kernel
theorem dX8_isKind_10 : decode cX8_isKind 10 = .ok (.goto 4, 3) := by decide +kernel
theorem dX8_isKind_13 : decode cX8_isKind 13 = .ok (.iconst 0, 1) := by decide +kernel
theorem dX8_isKind_14 : decode cX8_isKind 14 = .ok (.ireturn, 1) := by decide +kernel
theorem dX8_isInput_0 : decode cX8_isInput 0 = .ok (.iload_n 0, 1) := by decide +kernel
theorem dX8_isInput_1 : decode cX8_isInput 1 = .ok (.bipush (-100), 2) := by decide +kernel
theorem dX8_isInput_3 : decode cX8_isInput 3 = .ok (.if_icmp .lt 13, 3) := by decide +kernel
theorem dX8_isInput_6 : decode cX8_isInput 6 = .ok (.iload_n 0, 1) := by decide +kernel
theorem dX8_isInput_7 : decode cX8_isInput 7 = .ok (.bipush 100, 2) := by decide +kernel
theorem dX8_isInput_9 : decode cX8_isInput 9 = .ok (.if_icmp .gt 7, 3) := by decide +kernel
theorem dX8_isInput_12 : decode cX8_isInput 12 = .ok (.iconst 1, 1) := by decide +kernel
theorem dX8_isInput_13 : decode cX8_isInput 13 = .ok (.goto 4, 3) := by decide +kernel
theorem dX8_isInput_16 : decode cX8_isInput 16 = .ok (.iconst 0, 1) := by decide +kernel
theorem dX8_isInput_17 : decode cX8_isInput 17 = .ok (.ireturn, 1) := by decide +kernel
theorem dX8_isTooFar_0 : decode cX8_isTooFar 0 = .ok (.lload_n 0, 1) := by decide +kernel
theorem dX8_isTooFar_1 : decode cX8_isTooFar 1 = .ok (.ldc2_w 205, 3) := by decide +kernel
theorem dX8_isTooFar_4 : decode cX8_isTooFar 4 = .ok (.lcmp, 1) := by decide +kernel
theorem dX8_isTooFar_5 : decode cX8_isTooFar 5 = .ok (.ifCond .gt 11, 3) := by decide +kernel
theorem dX8_isTooFar_8 : decode cX8_isTooFar 8 = .ok (.lload_n 0, 1) := by decide +kernel
theorem dX8_isTooFar_9 : decode cX8_isTooFar 9 = .ok (.ldc2_w 207, 3) := by decide +kernel
theorem dX8_isTooFar_12 : decode cX8_isTooFar 12 = .ok (.lcmp, 1) := by decide +kernel
theorem dX8_isTooFar_13 : decode cX8_isTooFar 13 = .ok (.ifCond .ge 7, 3) := by decide +kernel
theorem dX8_isTooFar_16 : decode cX8_isTooFar 16 = .ok (.iconst 1, 1) := by decide +kernel
theorem dX8_isTooFar_17 : decode cX8_isTooFar 17 = .ok (.goto 4, 3) := by decide +kernel
theorem dX8_isTooFar_20 : decode cX8_isTooFar 20 = .ok (.iconst 0, 1) := by decide +kernel
theorem dX8_isTooFar_21 : decode cX8_isTooFar 21 = .ok (.ireturn, 1) := by decide +kernel
theorem dX9_init_0 : decode cX9_init 0 = .ok (.aload_n 0, 1) := by decide +kernel
theorem dX9_init_1 : decode cX9_init 1 = .ok (.invokespecial 1, 3) := by decide +kernel
theorem dX9_init_4 : decode cX9_init 4 = .ok (.aload_n 0, 1) := by decide +kernel
theorem dX9_init_5 : decode cX9_init 5 = .ok (.bipush 10, 2) := by decide +kernel
theorem dX9_init_7 : decode cX9_init 7 = .ok (.newarray .int, 2) := by decide +kernel
theorem dX9_init_9 : decode cX9_init 9 = .ok (.putfield 7, 3) := by decide +kernel
theorem dX9_init_12 : decode cX9_init 12 = .ok (.aload_n 0, 1) := by decide +kernel
theorem dX9_init_13 : decode cX9_init 13 = .ok (.iconst 4, 1) := by decide +kernel
theorem dX9_init_14 : decode cX9_init 14 = .ok (.newarray .int, 2) := by decide +kernel
theorem dX9_init_16 : decode cX9_init 16 = .ok (.putfield 13, 3) := by decide +kernel
theorem dX9_init_19 : decode cX9_init 19 = .ok (.aload_n 0, 1) := by decide +kernel
theorem dX9_init_20 : decode cX9_init 20 = .ok (.bipush 32, 2) := by decide +kernel
theorem dX9_init_22 : decode cX9_init 22 = .ok (.newarray .int, 2) := by decide +kernel
theorem dX9_init_24 : decode cX9_init 24 = .ok (.putfield 16, 3) := by decide +kernel
theorem dX9_init_27 : decode cX9_init 27 = .ok (.aload_n 0, 1) := by decide +kernel
theorem dX9_init_28 : decode cX9_init 28 = .ok (.bipush 8, 2) := by decide +kernel
theorem dX9_init_30 : decode cX9_init 30 = .ok (.newarray .int, 2) := by decide +kernel
theorem dX9_init_32 : decode cX9_init 32 = .ok (.putfield 19, 3) := by decide +kernel
theorem dX9_init_35 : decode cX9_init 35 = .ok (.aload_n 0, 1) := by decide +kernel
theorem dX9_init_36 : decode cX9_init 36 = .ok (.bipush 12, 2) := by decide +kernel
theorem dX9_init_38 : decode cX9_init 38 = .ok (.newarray .int, 2) := by decide +kernel
theorem dX9_init_40 : decode cX9_init 40 = .ok (.putfield 22, 3) := by decide +kernel
theorem dX9_init_43 : decode cX9_init 43 = .ok (.aload_n 0, 1) := by decide +kernel
theorem dX9_init_44 : decode cX9_init 44 = .ok (.bipush 12, 2) := by decide +kernel
theorem dX9_init_46 : decode cX9_init 46 = .ok (.newarray .int, 2) := by decide +kernel
theorem dX9_init_48 : decode cX9_init 48 = .ok (.putfield 25, 3) := by decide +kernel
theorem dX9_init_51 : decode cX9_init 51 = .ok (.aload_n 0, 1) := by decide +kernel
theorem dX9_init_52 : decode cX9_init 52 = .ok (.bipush 26, 2) := by decide +kernel
theorem dX9_init_54 : decode cX9_init 54 = .ok (.newarray .int, 2) := by decide +kernel
theorem dX9_init_56 : decode cX9_init 56 = .ok (.putfield 28, 3) := by decide +kernel
theorem dX9_init_59 : decode cX9_init 59 = .ok (.aload_n 0, 1) := by decide +kernel
theorem dX9_init_60 : decode cX9_init 60 = .ok (.bipush 12, 2) := by decide +kernel
theorem dX9_init_62 : decode cX9_init 62 = .ok (.newarray .int, 2) := by decide +kernel
theorem dX9_init_64 : decode cX9_init 64 = .ok (.putfield 31, 3) := by decide +kernel
theorem dX9_init_67 : decode cX9_init 67 = .ok (.aload_n 0, 1) := by decide +kernel
theorem dX9_init_68 : decode cX9_init 68 = .ok (.iconst 4, 1) := by decide +kernel
theorem dX9_init_69 : decode cX9_init 69 = .ok (.newarray .int, 2) := by decide +kernel
theorem dX9_init_71 : decode cX9_init 71 = .ok (.putfield 34, 3) := by decide +kernel
theorem dX9_init_74 : decode cX9_init 74 = .ok (.aload_n 0, 1) := by decide +kernel
theorem dX9_init_75 : decode cX9_init 75 = .ok (.bipush 12, 2) := by decide +kernel
theorem dX9_init_77 : decode cX9_init 77 = .ok (.newarray .long, 2) := by decide +kernel
theorem dX9_init_79 : decode cX9_init 79 = .ok (.putfield 37, 3) := by decide +kernel
theorem dX9_init_82 : decode cX9_init 82 = .ok (.aload_n 0, 1) := by decide +kernel
theorem dX9_init_83 : decode cX9_init 83 = .ok (.bipush 28, 2) := by decide +kernel
theorem dX9_init_85 : decode cX9_init 85 = .ok (.newarray .int, 2) := by decide +kernel
theorem dX9_init_87 : decode cX9_init 87 = .ok (.putfield 41, 3) := by decide +kernel
theorem dX9_init_90 : decode cX9_init 90 = .ok (.aload_n 0, 1) := by decide +kernel
theorem dX9_init_91 : decode cX9_init 91 = .ok (.bipush 28, 2) := by decide +kernel
theorem dX9_init_93 : decode cX9_init 93 = .ok (.newarray .int, 2) := by decide +kernel
theorem dX9_init_95 : decode cX9_init 95 = .ok (.putfield 44, 3) := by decide +kernel
theorem dX9_init_98 : decode cX9_init 98 = .ok (.aload_n 0, 1) := by decide +kernel
theorem dX9_init_99 : decode cX9_init 99 = .ok (.sipush 3600, 3) := by decide +kernel
theorem dX9_init_102 : decode cX9_init 102 = .ok (.newarray .int, 2) := by decide +kernel
theorem dX9_init_104 : decode cX9_init 104 = .ok (.putfield 47, 3) := by decide +kernel
theorem dX9_init_107 : decode cX9_init 107 = .ok (.aload_n 0, 1) := by decide +kernel
theorem dX9_init_108 : decode cX9_init 108 = .ok (.sipush 300, 3) := by decide +kernel
theorem dX9_init_111 : decode cX9_init 111 = .ok (.newarray .int, 2) := by decide +kernel
theorem dX9_init_113 : decode cX9_init 113 = .ok (.putfield 50, 3) := by decide +kernel
theorem dX9_init_116 : decode cX9_init 116 = .ok (.aload_n 0, 1) := by decide +kernel
theorem dX9_init_117 : decode cX9_init 117 = .ok (.sipush 300, 3) := by decide +kernel
theorem dX9_init_120 : decode cX9_init 120 = .ok (.newarray .int, 2) := by decide +kernel
theorem dX9_init_122 : decode cX9_init 122 = .ok (.putfield 53, 3) := by decide +kernel
theorem dX9_init_125 : decode cX9_init 125 = .ok (.aload_n 0, 1) := by decide +kernel
theorem dX9_init_126 : decode cX9_init 126 = .ok (.bipush 28, 2) := by decide +kernel
theorem dX9_init_128 : decode cX9_init 128 = .ok (.newarray .int, 2) := by decide +kernel
theorem dX9_init_130 : decode cX9_init 130 = .ok (.putfield 56, 3) := by decide +kernel
theorem dX9_init_133 : decode cX9_init 133 = .ok (.aload_n 0, 1) := by decide +kernel
theorem dX9_init_134 : decode cX9_init 134 = .ok (.iconst (-1), 1) := by decide +kernel
theorem dX9_init_135 : decode cX9_init 135 = .ok (.putfield 59, 3) := by decide +kernel
theorem dX9_init_138 : decode cX9_init 138 = .ok (.aload_n 0, 1) := by decide +kernel
theorem dX9_init_139 : decode cX9_init 139 = .ok (.bipush 12, 2) := by decide +kernel
theorem dX9_init_141 : decode cX9_init 141 = .ok (.newarray .int, 2) := by decide +kernel
theorem dX9_init_143 : decode cX9_init 143 = .ok (.putfield 63, 3) := by decide +kernel
theorem dX9_init_146 : decode cX9_init 146 = .ok (.aload_n 0, 1) := by decide +kernel
theorem dX9_init_147 : decode cX9_init 147 = .ok (.sipush 625, 3) := by decide +kernel
theorem dX9_init_150 : decode cX9_init 150 = .ok (.newarray .int, 2) := by decide +kernel
theorem dX9_init_152 : decode cX9_init 152 = .ok (.putfield 66, 3) := by decide +kernel
theorem dX9_init_155 : decode cX9_init 155 = .ok (.return_, 1) := by decide +kernel
theorem dX9_in_0 : decode cX9_in 0 = .ok (.lload_n 0, 1) := by decide +kernel
theorem dX9_in_1 : decode cX9_in 1 = .ok (.lload_n 2, 1) := by decide +kernel
theorem dX9_in_2 : decode cX9_in 2 = .ok (.lcmp, 1) := by decide +kernel
theorem dX9_in_3 : decode cX9_in 3 = .ok (.ifCond .lt 14, 3) := by decide +kernel
theorem dX9_in_6 : decode cX9_in 6 = .ok (.lload_n 0, 1) := by decide +kernel
theorem dX9_in_7 : decode cX9_in 7 = .ok (.lload 4, 2) := by decide +kernel
theorem dX9_in_9 : decode cX9_in 9 = .ok (.lcmp, 1) := by decide +kernel
theorem dX9_in_10 : decode cX9_in 10 = .ok (.ifCond .gt 7, 3) := by decide +kernel
theorem dX9_in_13 : decode cX9_in 13 = .ok (.iconst 1, 1) := by decide +kernel
theorem dX9_in_14 : decode cX9_in 14 = .ok (.goto 4, 3) := by decide +kernel
theorem dX9_in_17 : decode cX9_in 17 = .ok (.iconst 0, 1) := by decide +kernel
theorem dX9_in_18 : decode cX9_in 18 = .ok (.ireturn, 1) := by decide +kernel
theorem dX9_told_0 : decode cX9_told 0 = .ok (.aload_n 0, 1) := by decide +kernel
theorem dX9_told_1 : decode cX9_told 1 = .ok (.iload_n 1, 1) := by decide +kernel
theorem dX9_told_2 : decode cX9_told 2 = .ok (.ifCond .ge 7, 3) := by decide +kernel
theorem dX9_told_5 : decode cX9_told 5 = .ok (.iload_n 1, 1) := by decide +kernel
theorem dX9_told_6 : decode cX9_told 6 = .ok (.goto 4, 3) := by decide +kernel
theorem dX9_told_9 : decode cX9_told 9 = .ok (.iconst 0, 1) := by decide +kernel
theorem dX9_told_10 : decode cX9_told 10 = .ok (.putfield 72, 3) := by decide +kernel
theorem dX9_told_13 : decode cX9_told 13 = .ok (.iload_n 1, 1) := by decide +kernel
theorem dX9_told_14 : decode cX9_told 14 = .ok (.ireturn, 1) := by decide +kernel
theorem dX9_isToken_0 : decode cX9_isToken 0 = .ok (.iload_n 0, 1) := by decide +kernel
theorem dX9_isToken_1 : decode cX9_isToken 1 = .ok (.i2l, 1) := by decide +kernel
theorem dX9_isToken_2 : decode cX9_isToken 2 = .ok (.lconst 0, 1) := by decide +kernel
theorem dX9_isToken_3 : decode cX9_isToken 3 = .ok (.ldc2_w 75, 3) := by decide +kernel
theorem dX9_isToken_6 : decode cX9_isToken 6 = .ok (.invokestatic 77, 3) := by decide +kernel
theorem dX9_isToken_9 : decode cX9_isToken 9 = .ok (.ireturn, 1) := by decide +kernel
theorem dX9_put_0 : decode cX9_put 0 = .ok (.aload_n 0, 1) := by decide +kernel
theorem dX9_put_1 : decode cX9_put 1 = .ok (.iconst 0, 1) := by decide +kernel
theorem dX9_put_2 : decode cX9_put 2 = .ok (.putfield 69, 3) := by decide +kernel
theorem dX9_put_5 : decode cX9_put 5 = .ok (.iload_n 1, 1) := by decide +kernel
theorem dX9_put_6 : decode cX9_put 6 = .ok (.invokestatic 81, 3) := by decide +kernel
theorem dX9_put_9 : decode cX9_put 9 = .ok (.ifCond .ne 9, 3) := by decide +kernel
theorem dX9_put_12 : decode cX9_put 12 = .ok (.aload_n 0, 1) := by decide +kernel
theorem dX9_put_13 : decode cX9_put 13 = .ok (.iconst (-1), 1) := by decide +kernel
theorem dX9_put_14 : decode cX9_put 14 = .ok (.invokevirtual 85, 3) := by decide +kernel
theorem dX9_put_17 : decode cX9_put 17 = .ok (.ireturn, 1) := by decide +kernel
theorem dX9_put_18 : decode cX9_put 18 = .ok (.aload_n 0, 1) := by decide +kernel
theorem dX9_put_19 : decode cX9_put 19 = .ok (.getfield 89, 3) := by decide +kernel
theorem dX9_put_22 : decode cX9_put 22 = .ok (.bipush 10, 2) := by decide +kernel
theorem dX9_put_24 : decode cX9_put 24 = .ok (.if_icmp .ne 10, 3) := by decide +kernel
theorem dX9_put_27 : decode cX9_put 27 = .ok (.aload_n 0, 1) := by decide +kernel
theorem dX9_put_28 : decode cX9_put 28 = .ok (.bipush (-5), 2) := by decide +kernel
theorem dX9_put_30 : decode cX9_put 30 = .ok (.invokevirtual 85, 3) := by decide +kernel
theorem dX9_put_33 : decode cX9_put 33 = .ok (.ireturn, 1) := by decide +kernel
theorem dX9_put_34 : decode cX9_put 34 = .ok (.aload_n 0, 1) := by decide +kernel
theorem dX9_put_35 : decode cX9_put 35 = .ok (.getfield 7, 3) := by decide +kernel
theorem dX9_put_38 : decode cX9_put 38 = .ok (.aload_n 0, 1) := by decide +kernel
theorem dX9_put_39 : decode cX9_put 39 = .ok (.getfield 89, 3) := by decide +kernel
theorem dX9_put_42 : decode cX9_put 42 = .ok (.iload_n 1, 1) := by decide +kernel
theorem dX9_put_43 : decode cX9_put 43 = .ok (.iastore, 1) := by decide +kernel
theorem dX9_put_44 : decode cX9_put 44 = .ok (.aload_n 0, 1) := by decide +kernel
theorem dX9_put_45 : decode cX9_put 45 = .ok (.dup, 1) := by decide +kernel
theorem dX9_put_46 : decode cX9_put 46 = .ok (.getfield 89, 3) := by decide +kernel
theorem dX9_put_49 : decode cX9_put 49 = .ok (.iconst 1, 1) := by decide +kernel
theorem dX9_put_50 : decode cX9_put 50 = .ok (.iadd, 1) := by decide +kernel
theorem dX9_put_51 : decode cX9_put 51 = .ok (.putfield 89, 3) := by decide +kernel
theorem dX9_put_54 : decode cX9_put 54 = .ok (.aload_n 0, 1) := by decide +kernel
theorem dX9_put_55 : decode cX9_put 55 = .ok (.aload_n 0, 1) := by decide +kernel
theorem dX9_put_56 : decode cX9_put 56 = .ok (.getfield 89, 3) := by decide +kernel
theorem dX9_put_59 : decode cX9_put 59 = .ok (.invokevirtual 85, 3) := by decide +kernel
theorem dX9_put_62 : decode cX9_put 62 = .ok (.ireturn, 1) := by decide +kernel
theorem dX9_set_0 : decode cX9_set 0 = .ok (.aload_n 0, 1) := by decide +kernel
theorem dX9_set_1 : decode cX9_set 1 = .ok (.iconst 0, 1) := by decide +kernel
theorem dX9_set_2 : decode cX9_set 2 = .ok (.putfield 69, 3) := by decide +kernel
theorem dX9_set_5 : decode cX9_set 5 = .ok (.iload_n 2, 1) := by decide +kernel
theorem dX9_set_6 : decode cX9_set 6 = .ok (.iconst (-1), 1) := by decide +kernel
theorem dX9_set_7 : decode cX9_set 7 = .ok (.if_icmp .eq 16, 3) := by decide +kernel
theorem dX9_set_10 : decode cX9_set 10 = .ok (.iload_n 2, 1) := by decide +kernel
theorem dX9_set_11 : decode cX9_set 11 = .ok (.invokestatic 81, 3) := by decide +kernel
theorem dX9_set_14 : decode cX9_set 14 = .ok (.ifCond .ne 9, 3) := by decide +kernel
theorem dX9_set_17 : decode cX9_set 17 = .ok (.aload_n 0, 1) := by decide +kernel
theorem dX9_set_18 : decode cX9_set 18 = .ok (.iconst (-1), 1) := by decide +kernel
theorem dX9_set_19 : decode cX9_set 19 = .ok (.invokevirtual 85, 3) := by decide +kernel
theorem dX9_set_22 : decode cX9_set 22 = .ok (.ireturn, 1) := by decide +kernel
theorem dX9_set_23 : decode cX9_set 23 = .ok (.iload_n 1, 1) := by decide +kernel
theorem dX9_set_24 : decode cX9_set 24 = .ok (.i2l, 1) := by decide +kernel
theorem dX9_set_25 : decode cX9_set 25 = .ok (.lconst 0, 1) := by decide +kernel
theorem dX9_set_26 : decode cX9_set 26 = .ok (.aload_n 0, 1) := by decide +kernel
theorem dX9_set_27 : decode cX9_set 27 = .ok (.getfield 89, 3) := by decide +kernel
theorem dX9_set_30 : decode cX9_set 30 = .ok (.i2l, 1) := by decide +kernel
theorem dX9_set_31 : decode cX9_set 31 = .ok (.lconst 1, 1) := by decide +kernel
theorem dX9_set_32 : decode cX9_set 32 = .ok (.lsub, 1) := by decide +kernel
theorem dX9_set_33 : decode cX9_set 33 = .ok (.invokestatic 77, 3) := by decide +kernel
theorem dX9_set_36 : decode cX9_set 36 = .ok (.ifCond .ne 10, 3) := by decide +kernel
theorem dX9_set_39 : decode cX9_set 39 = .ok (.aload_n 0, 1) := by decide +kernel
theorem dX9_set_40 : decode cX9_set 40 = .ok (.bipush (-2), 2) := by decide +kernel
theorem dX9_set_42 : decode cX9_set 42 = .ok (.invokevirtual 85, 3) := by decide +kernel
theorem dX9_set_45 : decode cX9_set 45 = .ok (.ireturn, 1) := by decide +kernel
theorem dX9_set_46 : decode cX9_set 46 = .ok (.iload_n 2, 1) := by decide +kernel
theorem dX9_set_47 : decode cX9_set 47 = .ok (.iconst (-1), 1) := by decide +kernel
theorem dX9_set_48 : decode cX9_set 48 = .ok (.if_icmp .ne 46, 3) := by decide +kernel
theorem dX9_set_51 : decode cX9_set 51 = .ok (.aload_n 0, 1) := by decide +kernel
theorem dX9_set_52 : decode cX9_set 52 = .ok (.dup, 1) := by decide +kernel
theorem dX9_set_53 : decode cX9_set 53 = .ok (.getfield 89, 3) := by decide +kernel
theorem dX9_set_56 : decode cX9_set 56 = .ok (.iconst 1, 1) := by decide +kernel
theorem dX9_set_57 : decode cX9_set 57 = .ok (.isub, 1) := by decide +kernel
theorem dX9_set_58 : decode cX9_set 58 = .ok (.putfield 89, 3) := by decide +kernel
theorem dX9_set_61 : decode cX9_set 61 = .ok (.iload_n 1, 1) := by decide +kernel
theorem dX9_set_62 : decode cX9_set 62 = .ok (.istore_n 3, 1) := by decide +kernel
theorem dX9_set_63 : decode cX9_set 63 = .ok (.iload_n 3, 1) := by decide +kernel
theorem dX9_set_64 : decode cX9_set 64 = .ok (.aload_n 0, 1) := by decide +kernel
theorem dX9_set_65 : decode cX9_set 65 = .ok (.getfield 89, 3) := by decide +kernel
theorem dX9_set_68 : decode cX9_set 68 = .ok (.if_icmp .ge 23, 3) := by decide +kernel
theorem dX9_set_71 : decode cX9_set 71 = .ok (.aload_n 0, 1) := by decide +kernel
theorem dX9_set_72 : decode cX9_set 72 = .ok (.getfield 7, 3) := by decide +kernel
theorem dX9_set_75 : decode cX9_set 75 = .ok (.iload_n 3, 1) := by decide +kernel
theorem dX9_set_76 : decode cX9_set 76 = .ok (.aload_n 0, 1) := by decide +kernel
theorem dX9_set_77 : decode cX9_set 77 = .ok (.getfield 7, 3) := by decide +kernel
theorem dX9_set_80 : decode cX9_set 80 = .ok (.iload_n 3, 1) := by decide +kernel
theorem dX9_set_81 : decode cX9_set 81 = .ok (.iconst 1, 1) := by decide +kernel
theorem dX9_set_82 : decode cX9_set 82 = .ok (.iadd, 1) := by decide +kernel
theorem dX9_set_83 : decode cX9_set 83 = .ok (.iaload, 1) := by decide +kernel
theorem dX9_set_84 : decode cX9_set 84 = .ok (.iastore, 1) := by decide +kernel
theorem dX9_set_85 : decode cX9_set 85 = .ok (.iinc 3 1, 3) := by decide +kernel
theorem dX9_set_88 : decode cX9_set 88 = .ok (.goto (-25), 3) := by decide +kernel
theorem dX9_set_91 : decode cX9_set 91 = .ok (.goto 10, 3) := by decide +kernel
theorem dX9_set_94 : decode cX9_set 94 = .ok (.aload_n 0, 1) := by decide +kernel
theorem dX9_set_95 : decode cX9_set 95 = .ok (.getfield 7, 3) := by decide +kernel
theorem dX9_set_98 : decode cX9_set 98 = .ok (.iload_n 1, 1) := by decide +kernel
theorem dX9_set_99 : decode cX9_set 99 = .ok (.iload_n 2, 1) := by decide +kernel
theorem dX9_set_100 : decode cX9_set 100 = .ok (.iastore, 1) := by decide +kernel
theorem dX9_set_101 : decode cX9_set 101 = .ok (.aload_n 0, 1) := by decide +kernel
theorem dX9_set_102 : decode cX9_set 102 = .ok (.aload_n 0, 1) := by decide +kernel
theorem dX9_set_103 : decode cX9_set 103 = .ok (.getfield 89, 3) := by decide +kernel
theorem dX9_set_106 : decode cX9_set 106 = .ok (.invokevirtual 85, 3) := by decide +kernel
theorem dX9_set_109 : decode cX9_set 109 = .ok (.ireturn, 1) := by decide +kernel
theorem dX9_clear_0 : decode cX9_clear 0 = .ok (.aload_n 0, 1) := by decide +kernel
theorem dX9_clear_1 : decode cX9_clear 1 = .ok (.iconst 0, 1) := by decide +kernel
theorem dX9_clear_2 : decode cX9_clear 2 = .ok (.putfield 69, 3) := by decide +kernel
theorem dX9_clear_5 : decode cX9_clear 5 = .ok (.aload_n 0, 1) := by decide +kernel
theorem dX9_clear_6 : decode cX9_clear 6 = .ok (.getfield 89, 3) := by decide +kernel
theorem dX9_clear_9 : decode cX9_clear 9 = .ok (.istore_n 1, 1) := by decide +kernel
theorem dX9_clear_10 : decode cX9_clear 10 = .ok (.aload_n 0, 1) := by decide +kernel
theorem dX9_clear_11 : decode cX9_clear 11 = .ok (.iconst 0, 1) := by decide +kernel
theorem dX9_clear_12 : decode cX9_clear 12 = .ok (.putfield 89, 3) := by decide +kernel
theorem dX9_clear_15 : decode cX9_clear 15 = .ok (.iload_n 1, 1) := by decide +kernel
theorem dX9_clear_16 : decode cX9_clear 16 = .ok (.ireturn, 1) := by decide +kernel
theorem dX9_token_0 : decode cX9_token 0 = .ok (.aload_n 0, 1) := by decide +kernel
theorem dX9_token_1 : decode cX9_token 1 = .ok (.iconst 0, 1) := by decide +kernel
theorem dX9_token_2 : decode cX9_token 2 = .ok (.putfield 69, 3) := by decide +kernel
theorem dX9_token_5 : decode cX9_token 5 = .ok (.iload_n 1, 1) := by decide +kernel
theorem dX9_token_6 : decode cX9_token 6 = .ok (.iconst (-1), 1) := by decide +kernel
theorem dX9_token_7 : decode cX9_token 7 = .ok (.if_icmp .ne 10, 3) := by decide +kernel
theorem dX9_token_10 : decode cX9_token 10 = .ok (.aload_n 0, 1) := by decide +kernel
theorem dX9_token_11 : decode cX9_token 11 = .ok (.getfield 89, 3) := by decide +kernel
theorem dX9_token_14 : decode cX9_token 14 = .ok (.goto 29, 3) := by decide +kernel
theorem dX9_token_17 : decode cX9_token 17 = .ok (.iload_n 1, 1) := by decide +kernel
theorem dX9_token_18 : decode cX9_token 18 = .ok (.i2l, 1) := by decide +kernel
theorem dX9_token_19 : decode cX9_token 19 = .ok (.lconst 0, 1) := by decide +kernel
theorem dX9_token_20 : decode cX9_token 20 = .ok (.aload_n 0, 1) := by decide +kernel
theorem dX9_token_21 : decode cX9_token 21 = .ok (.getfield 89, 3) := by decide +kernel
theorem dX9_token_24 : decode cX9_token 24 = .ok (.i2l, 1) := by decide +kernel
theorem dX9_token_25 : decode cX9_token 25 = .ok (.lconst 1, 1) := by decide +kernel
theorem dX9_token_26 : decode cX9_token 26 = .ok (.lsub, 1) := by decide +kernel
theorem dX9_token_27 : decode cX9_token 27 = .ok (.invokestatic 77, 3) := by decide +kernel
theorem dX9_token_30 : decode cX9_token 30 = .ok (.ifCond .eq 12, 3) := by decide +kernel
theorem dX9_token_33 : decode cX9_token 33 = .ok (.aload_n 0, 1) := by decide +kernel
theorem dX9_token_34 : decode cX9_token 34 = .ok (.getfield 7, 3) := by decide +kernel
theorem dX9_token_37 : decode cX9_token 37 = .ok (.iload_n 1, 1) := by decide +kernel
theorem dX9_token_38 : decode cX9_token 38 = .ok (.iaload, 1) := by decide +kernel
theorem dX9_token_39 : decode cX9_token 39 = .ok (.goto 4, 3) := by decide +kernel
theorem dX9_token_42 : decode cX9_token 42 = .ok (.iconst (-1), 1) := by decide +kernel
theorem dX9_token_43 : decode cX9_token 43 = .ok (.ireturn, 1) := by decide +kernel
theorem dX9_kind_0 : decode cX9_kind 0 = .ok (.aload_n 0, 1) := by decide +kernel
theorem dX9_kind_1 : decode cX9_kind 1 = .ok (.iconst 0, 1) := by decide +kernel
theorem dX9_kind_2 : decode cX9_kind 2 = .ok (.putfield 69, 3) := by decide +kernel
theorem dX9_kind_5 : decode cX9_kind 5 = .ok (.iload_n 1, 1) := by decide +kernel
theorem dX9_kind_6 : decode cX9_kind 6 = .ok (.i2l, 1) := by decide +kernel
theorem dX9_kind_7 : decode cX9_kind 7 = .ok (.lconst 0, 1) := by decide +kernel
theorem dX9_kind_8 : decode cX9_kind 8 = .ok (.ldc2_w 92, 3) := by decide +kernel
theorem dX9_kind_11 : decode cX9_kind 11 = .ok (.invokestatic 77, 3) := by decide +kernel
theorem dX9_kind_14 : decode cX9_kind 14 = .ok (.ifCond .eq 13, 3) := by decide +kernel
theorem dX9_kind_17 : decode cX9_kind 17 = .ok (.iload_n 2, 1) := by decide +kernel
theorem dX9_kind_18 : decode cX9_kind 18 = .ok (.i2l, 1) := by decide +kernel
theorem dX9_kind_19 : decode cX9_kind 19 = .ok (.lconst 0, 1) := by decide +kernel
theorem dX9_kind_20 : decode cX9_kind 20 = .ok (.lconst 1, 1) := by decide +kernel
theorem dX9_kind_21 : decode cX9_kind 21 = .ok (.invokestatic 77, 3) := by decide +kernel
theorem dX9_kind_24 : decode cX9_kind 24 = .ok (.ifCond .ne 9, 3) := by decide +kernel
theorem dX9_kind_27 : decode cX9_kind 27 = .ok (.aload_n 0, 1) := by decide +kernel
theorem dX9_kind_28 : decode cX9_kind 28 = .ok (.iconst (-1), 1) := by decide +kernel
theorem dX9_kind_29 : decode cX9_kind 29 = .ok (.invokevirtual 85, 3) := by decide +kernel
theorem dX9_kind_32 : decode cX9_kind 32 = .ok (.ireturn, 1) := by decide +kernel
theorem dX9_kind_33 : decode cX9_kind 33 = .ok (.aload_n 0, 1) := by decide +kernel
theorem dX9_kind_34 : decode cX9_kind 34 = .ok (.getfield 13, 3) := by decide +kernel
theorem dX9_kind_37 : decode cX9_kind 37 = .ok (.iload_n 1, 1) := by decide +kernel
theorem dX9_kind_38 : decode cX9_kind 38 = .ok (.iaload, 1) := by decide +kernel
theorem dX9_kind_39 : decode cX9_kind 39 = .ok (.istore_n 3, 1) := by decide +kernel
theorem dX9_kind_40 : decode cX9_kind 40 = .ok (.aload_n 0, 1) := by decide +kernel
theorem dX9_kind_41 : decode cX9_kind 41 = .ok (.getfield 13, 3) := by decide +kernel
theorem dX9_kind_44 : decode cX9_kind 44 = .ok (.iload_n 1, 1) := by decide +kernel
theorem dX9_kind_45 : decode cX9_kind 45 = .ok (.iload_n 2, 1) := by decide +kernel
theorem dX9_kind_46 : decode cX9_kind 46 = .ok (.iastore, 1) := by decide +kernel
theorem dX9_kind_47 : decode cX9_kind 47 = .ok (.aload_n 0, 1) := by decide +kernel
theorem dX9_kind_48 : decode cX9_kind 48 = .ok (.iload_n 3, 1) := by decide +kernel
theorem dX9_kind_49 : decode cX9_kind 49 = .ok (.invokevirtual 85, 3) := by decide +kernel
theorem dX9_kind_52 : decode cX9_kind 52 = .ok (.ireturn, 1) := by decide +kernel
theorem dX9_isFrame_0 : decode cX9_isFrame 0 = .ok (.iload_n 0, 1) := by decide +kernel
theorem dX9_isFrame_1 : decode cX9_isFrame 1 = .ok (.ifCond .eq 21, 3) := by decide +kernel
theorem dX9_isFrame_4 : decode cX9_isFrame 4 = .ok (.iload_n 0, 1) := by decide +kernel
theorem dX9_isFrame_5 : decode cX9_isFrame 5 = .ok (.bipush 9, 2) := by decide +kernel
theorem dX9_isFrame_7 : decode cX9_isFrame 7 = .ok (.if_icmp .eq 15, 3) := by decide +kernel
theorem dX9_isFrame_10 : decode cX9_isFrame 10 = .ok (.iload_n 0, 1) := by decide +kernel
theorem dX9_isFrame_11 : decode cX9_isFrame 11 = .ok (.bipush 10, 2) := by decide +kernel
theorem dX9_isFrame_13 : decode cX9_isFrame 13 = .ok (.if_icmp .eq 9, 3) := by decide +kernel
theorem dX9_isFrame_16 : decode cX9_isFrame 16 = .ok (.iload_n 0, 1) := by decide +kernel
theorem dX9_isFrame_17 : decode cX9_isFrame 17 = .ok (.bipush 11, 2) := by decide +kernel
theorem dX9_isFrame_19 : decode cX9_isFrame 19 = .ok (.if_icmp .ne 7, 3) := by decide +kernel
theorem dX9_isFrame_22 : decode cX9_isFrame 22 = .ok (.iconst 1, 1) := by decide +kernel
theorem dX9_isFrame_23 : decode cX9_isFrame 23 = .ok (.goto 4, 3) := by decide +kernel
theorem dX9_isFrame_26 : decode cX9_isFrame 26 = .ok (.iconst 0, 1) := by decide +kernel
theorem dX9_isFrame_27 : decode cX9_isFrame 27 = .ok (.ireturn, 1) := by decide +kernel
theorem dX9_binds_0 : decode cX9_binds 0 = .ok (.iload_n 0, 1) := by decide +kernel
theorem dX9_binds_1 : decode cX9_binds 1 = .ok (.iconst 4, 1) := by decide +kernel
theorem dX9_binds_2 : decode cX9_binds 2 = .ok (.if_icmp .ne 7, 3) := by decide +kernel
theorem dX9_binds_5 : decode cX9_binds 5 = .ok (.iconst 5, 1) := by decide +kernel
theorem dX9_binds_6 : decode cX9_binds 6 = .ok (.goto 43, 3) := by decide +kernel
theorem dX9_binds_9 : decode cX9_binds 9 = .ok (.iload_n 0, 1) := by decide +kernel
theorem dX9_binds_10 : decode cX9_binds 10 = .ok (.iconst 2, 1) := by decide +kernel
theorem dX9_binds_11 : decode cX9_binds 11 = .ok (.if_icmp .eq 8, 3) := by decide +kernel
theorem dX9_binds_14 : decode cX9_binds 14 = .ok (.iload_n 0, 1) := by decide +kernel
theorem dX9_binds_15 : decode cX9_binds 15 = .ok (.iconst 3, 1) := by decide +kernel
theorem dX9_binds_16 : decode cX9_binds 16 = .ok (.if_icmp .ne 7, 3) := by decide +kernel
theorem dX9_binds_19 : decode cX9_binds 19 = .ok (.iconst 4, 1) := by decide +kernel
theorem dX9_binds_20 : decode cX9_binds 20 = .ok (.goto 29, 3) := by decide +kernel
theorem dX9_binds_23 : decode cX9_binds 23 = .ok (.iload_n 0, 1) := by decide +kernel
theorem dX9_binds_24 : decode cX9_binds 24 = .ok (.iconst 5, 1) := by decide +kernel
theorem dX9_binds_25 : decode cX9_binds 25 = .ok (.if_icmp .eq 9, 3) := by decide +kernel
theorem dX9_binds_28 : decode cX9_binds 28 = .ok (.iload_n 0, 1) := by decide +kernel
theorem dX9_binds_29 : decode cX9_binds 29 = .ok (.bipush 6, 2) := by decide +kernel
theorem dX9_binds_31 : decode cX9_binds 31 = .ok (.if_icmp .ne 7, 3) := by decide +kernel
theorem dX9_binds_34 : decode cX9_binds 34 = .ok (.iconst 3, 1) := by decide +kernel
theorem dX9_binds_35 : decode cX9_binds 35 = .ok (.goto 14, 3) := by decide +kernel
theorem dX9_binds_38 : decode cX9_binds 38 = .ok (.iload_n 0, 1) := by decide +kernel
theorem dX9_binds_39 : decode cX9_binds 39 = .ok (.bipush 8, 2) := by decide +kernel
theorem dX9_binds_41 : decode cX9_binds 41 = .ok (.if_icmp .ne 7, 3) := by decide +kernel
theorem dX9_binds_44 : decode cX9_binds 44 = .ok (.iconst 2, 1) := by decide +kernel
theorem dX9_binds_45 : decode cX9_binds 45 = .ok (.goto 4, 3) := by decide +kernel
theorem dX9_binds_48 : decode cX9_binds 48 = .ok (.iconst 1, 1) := by decide +kernel
theorem dX9_binds_49 : decode cX9_binds 49 = .ok (.ireturn, 1) := by decide +kernel
theorem dX9_settle_0 : decode cX9_settle 0 = .ok (.aload_n 0, 1) := by decide +kernel
theorem dX9_settle_1 : decode cX9_settle 1 = .ok (.getfield 94, 3) := by decide +kernel
theorem dX9_settle_4 : decode cX9_settle 4 = .ok (.ifCond .le 79, 3) := by decide +kernel
theorem dX9_settle_7 : decode cX9_settle 7 = .ok (.aload_n 0, 1) := by decide +kernel
theorem dX9_settle_8 : decode cX9_settle 8 = .ok (.getfield 28, 3) := by decide +kernel
theorem dX9_settle_11 : decode cX9_settle 11 = .ok (.aload_n 0, 1) := by decide +kernel
theorem dX9_settle_12 : decode cX9_settle 12 = .ok (.getfield 94, 3) := by decide +kernel
theorem dX9_settle_15 : decode cX9_settle 15 = .ok (.iconst 1, 1) := by decide +kernel
theorem dX9_settle_16 : decode cX9_settle 16 = .ok (.isub, 1) := by decide +kernel
theorem dX9_settle_17 : decode cX9_settle 17 = .ok (.iaload, 1) := by decide +kernel
theorem dX9_settle_18 : decode cX9_settle 18 = .ok (.invokestatic 97, 3) := by decide +kernel
theorem dX9_settle_21 : decode cX9_settle 21 = .ok (.ifCond .ne 62, 3) := by decide +kernel
theorem dX9_settle_24 : decode cX9_settle 24 = .ok (.aload_n 0, 1) := by decide +kernel
theorem dX9_settle_25 : decode cX9_settle 25 = .ok (.getfield 28, 3) := by decide +kernel
theorem dX9_settle_28 : decode cX9_settle 28 = .ok (.aload_n 0, 1) := by decide +kernel
theorem dX9_settle_29 : decode cX9_settle 29 = .ok (.getfield 94, 3) := by decide +kernel
theorem dX9_settle_32 : decode cX9_settle 32 = .ok (.iconst 1, 1) := by decide +kernel
theorem dX9_settle_33 : decode cX9_settle 33 = .ok (.isub, 1) := by decide +kernel
theorem dX9_settle_34 : decode cX9_settle 34 = .ok (.iaload, 1) := by decide +kernel
theorem dX9_settle_35 : decode cX9_settle 35 = .ok (.invokestatic 100, 3) := by decide +kernel
theorem dX9_settle_38 : decode cX9_settle 38 = .ok (.iload_n 1, 1) := by decide +kernel
theorem dX9_settle_39 : decode cX9_settle 39 = .ok (.if_icmp .lt 44, 3) := by decide +kernel
theorem dX9_settle_42 : decode cX9_settle 42 = .ok (.aload_n 0, 1) := by decide +kernel
theorem dX9_settle_43 : decode cX9_settle 43 = .ok (.dup, 1) := by decide +kernel
theorem dX9_settle_44 : decode cX9_settle 44 = .ok (.getfield 94, 3) := by decide +kernel
theorem dX9_settle_47 : decode cX9_settle 47 = .ok (.iconst 1, 1) := by decide +kernel
theorem dX9_settle_48 : decode cX9_settle 48 = .ok (.isub, 1) := by decide +kernel
theorem dX9_settle_49 : decode cX9_settle 49 = .ok (.putfield 94, 3) := by decide +kernel
theorem dX9_settle_52 : decode cX9_settle 52 = .ok (.aload_n 0, 1) := by decide +kernel
theorem dX9_settle_53 : decode cX9_settle 53 = .ok (.getfield 25, 3) := by decide +kernel
theorem dX9_settle_56 : decode cX9_settle 56 = .ok (.aload_n 0, 1) := by decide +kernel
theorem dX9_settle_57 : decode cX9_settle 57 = .ok (.getfield 103, 3) := by decide +kernel
theorem dX9_settle_60 : decode cX9_settle 60 = .ok (.aload_n 0, 1) := by decide +kernel
theorem dX9_settle_61 : decode cX9_settle 61 = .ok (.getfield 28, 3) := by decide +kernel
theorem dX9_settle_64 : decode cX9_settle 64 = .ok (.aload_n 0, 1) := by decide +kernel
theorem dX9_settle_65 : decode cX9_settle 65 = .ok (.getfield 94, 3) := by decide +kernel
theorem dX9_settle_68 : decode cX9_settle 68 = .ok (.iaload, 1) := by decide +kernel
theorem dX9_settle_69 : decode cX9_settle 69 = .ok (.iastore, 1) := by decide +kernel
theorem dX9_settle_70 : decode cX9_settle 70 = .ok (.aload_n 0, 1) := by decide +kernel
theorem dX9_settle_71 : decode cX9_settle 71 = .ok (.dup, 1) := by decide +kernel
theorem dX9_settle_72 : decode cX9_settle 72 = .ok (.getfield 103, 3) := by decide +kernel
theorem dX9_settle_75 : decode cX9_settle 75 = .ok (.iconst 1, 1) := by decide +kernel
theorem dX9_settle_76 : decode cX9_settle 76 = .ok (.iadd, 1) := by decide +kernel
theorem dX9_settle_77 : decode cX9_settle 77 = .ok (.putfield 103, 3) := by decide +kernel
theorem dX9_settle_80 : decode cX9_settle 80 = .ok (.goto (-80), 3) := by decide +kernel
theorem dX9_settle_83 : decode cX9_settle 83 = .ok (.return_, 1) := by decide +kernel
theorem dX9_frame_0 : decode cX9_frame 0 = .ok (.aload_n 0, 1) := by decide +kernel
theorem dX9_frame_1 : decode cX9_frame 1 = .ok (.getfield 28, 3) := by decide +kernel
theorem dX9_frame_4 : decode cX9_frame 4 = .ok (.aload_n 0, 1) := by decide +kernel
theorem dX9_frame_5 : decode cX9_frame 5 = .ok (.getfield 94, 3) := by decide +kernel
theorem dX9_frame_8 : decode cX9_frame 8 = .ok (.aload_n 0, 1) := by decide +kernel
theorem dX9_frame_9 : decode cX9_frame 9 = .ok (.getfield 106, 3) := by decide +kernel
theorem dX9_frame_12 : decode cX9_frame 12 = .ok (.ifCond .eq 7, 3) := by decide +kernel
theorem dX9_frame_15 : decode cX9_frame 15 = .ok (.iconst 1, 1) := by decide +kernel
theorem dX9_frame_16 : decode cX9_frame 16 = .ok (.goto 4, 3) := by decide +kernel
theorem dX9_frame_19 : decode cX9_frame 19 = .ok (.iconst 0, 1) := by decide +kernel
theorem dX9_frame_20 : decode cX9_frame 20 = .ok (.iastore, 1) := by decide +kernel
theorem dX9_frame_21 : decode cX9_frame 21 = .ok (.aload_n 0, 1) := by decide +kernel
theorem dX9_frame_22 : decode cX9_frame 22 = .ok (.getfield 28, 3) := by decide +kernel
theorem dX9_frame_25 : decode cX9_frame 25 = .ok (.aload_n 0, 1) := by decide +kernel
theorem dX9_frame_26 : decode cX9_frame 26 = .ok (.getfield 94, 3) := by decide +kernel
theorem dX9_frame_29 : decode cX9_frame 29 = .ok (.iconst 1, 1) := by decide +kernel
theorem dX9_frame_30 : decode cX9_frame 30 = .ok (.iadd, 1) := by decide +kernel
theorem dX9_frame_31 : decode cX9_frame 31 = .ok (.iload_n 1, 1) := by decide +kernel
theorem dX9_frame_32 : decode cX9_frame 32 = .ok (.iastore, 1) := by decide +kernel
theorem dX9_frame_33 : decode cX9_frame 33 = .ok (.aload_n 0, 1) := by decide +kernel
theorem dX9_frame_34 : decode cX9_frame 34 = .ok (.dup, 1) := by decide +kernel
theorem dX9_frame_35 : decode cX9_frame 35 = .ok (.getfield 94, 3) := by decide +kernel
theorem dX9_frame_38 : decode cX9_frame 38 = .ok (.iconst 2, 1) := by decide +kernel
theorem dX9_frame_39 : decode cX9_frame 39 = .ok (.iadd, 1) := by decide +kernel
theorem dX9_frame_40 : decode cX9_frame 40 = .ok (.putfield 94, 3) := by decide +kernel
theorem dX9_frame_43 : decode cX9_frame 43 = .ok (.aload_n 0, 1) := by decide +kernel
theorem dX9_frame_44 : decode cX9_frame 44 = .ok (.iconst 0, 1) := by decide +kernel
theorem dX9_frame_45 : decode cX9_frame 45 = .ok (.putfield 106, 3) := by decide +kernel
theorem dX9_frame_48 : decode cX9_frame 48 = .ok (.return_, 1) := by decide +kernel
theorem dX9_close_0 : decode cX9_close 0 = .ok (.aload_n 0, 1) := by decide +kernel
theorem dX9_close_1 : decode cX9_close 1 = .ok (.iconst 1, 1) := by decide +kernel
theorem dX9_close_2 : decode cX9_close 2 = .ok (.invokevirtual 110, 3) := by decide +kernel
theorem dX9_close_5 : decode cX9_close 5 = .ok (.aload_n 0, 1) := by decide +kernel
theorem dX9_close_6 : decode cX9_close 6 = .ok (.getfield 94, 3) := by decide +kernel
theorem dX9_close_9 : decode cX9_close 9 = .ok (.ifCond .le 58, 3) := by decide +kernel
theorem dX9_close_12 : decode cX9_close 12 = .ok (.aload_n 0, 1) := by decide +kernel
theorem dX9_close_13 : decode cX9_close 13 = .ok (.getfield 28, 3) := by decide +kernel
theorem dX9_close_16 : decode cX9_close 16 = .ok (.aload_n 0, 1) := by decide +kernel
theorem dX9_close_17 : decode cX9_close 17 = .ok (.getfield 94, 3) := by decide +kernel
theorem dX9_close_20 : decode cX9_close 20 = .ok (.iconst 1, 1) := by decide +kernel
theorem dX9_close_21 : decode cX9_close 21 = .ok (.isub, 1) := by decide +kernel
theorem dX9_close_22 : decode cX9_close 22 = .ok (.iaload, 1) := by decide +kernel
theorem dX9_close_23 : decode cX9_close 23 = .ok (.bipush 11, 2) := by decide +kernel
theorem dX9_close_25 : decode cX9_close 25 = .ok (.if_icmp .ne 42, 3) := by decide +kernel
theorem dX9_close_28 : decode cX9_close 28 = .ok (.aload_n 0, 1) := by decide +kernel
theorem dX9_close_29 : decode cX9_close 29 = .ok (.getfield 25, 3) := by decide +kernel
theorem dX9_close_32 : decode cX9_close 32 = .ok (.aload_n 0, 1) := by decide +kernel
theorem dX9_close_33 : decode cX9_close 33 = .ok (.getfield 103, 3) := by decide +kernel
theorem dX9_close_36 : decode cX9_close 36 = .ok (.bipush 9, 2) := by decide +kernel
theorem dX9_close_38 : decode cX9_close 38 = .ok (.iastore, 1) := by decide +kernel
theorem dX9_close_39 : decode cX9_close 39 = .ok (.aload_n 0, 1) := by decide +kernel
theorem dX9_close_40 : decode cX9_close 40 = .ok (.dup, 1) := by decide +kernel
theorem dX9_close_41 : decode cX9_close 41 = .ok (.getfield 103, 3) := by decide +kernel
theorem dX9_close_44 : decode cX9_close 44 = .ok (.iconst 1, 1) := by decide +kernel
theorem dX9_close_45 : decode cX9_close 45 = .ok (.iadd, 1) := by decide +kernel
theorem dX9_close_46 : decode cX9_close 46 = .ok (.putfield 103, 3) := by decide +kernel
theorem dX9_close_49 : decode cX9_close 49 = .ok (.aload_n 0, 1) := by decide +kernel
theorem dX9_close_50 : decode cX9_close 50 = .ok (.dup, 1) := by decide +kernel
theorem dX9_close_51 : decode cX9_close 51 = .ok (.getfield 94, 3) := by decide +kernel
theorem dX9_close_54 : decode cX9_close 54 = .ok (.iconst 2, 1) := by decide +kernel
theorem dX9_close_55 : decode cX9_close 55 = .ok (.isub, 1) := by decide +kernel
theorem dX9_close_56 : decode cX9_close 56 = .ok (.putfield 94, 3) := by decide +kernel
theorem dX9_close_59 : decode cX9_close 59 = .ok (.aload_n 0, 1) := by decide +kernel
theorem dX9_close_60 : decode cX9_close 60 = .ok (.iconst 1, 1) := by decide +kernel
theorem dX9_close_61 : decode cX9_close 61 = .ok (.invokevirtual 110, 3) := by decide +kernel
theorem dX9_close_64 : decode cX9_close 64 = .ok (.goto (-59), 3) := by decide +kernel
theorem dX9_close_67 : decode cX9_close 67 = .ok (.aload_n 0, 1) := by decide +kernel
theorem dX9_close_68 : decode cX9_close 68 = .ok (.getfield 94, 3) := by decide +kernel
theorem dX9_close_71 : decode cX9_close 71 = .ok (.ifCond .ne 7, 3) := by decide +kernel
theorem dX9_close_74 : decode cX9_close 74 = .ok (.iconst (-1), 1) := by decide +kernel
theorem dX9_close_75 : decode cX9_close 75 = .ok (.goto 14, 3) := by decide +kernel
theorem dX9_close_78 : decode cX9_close 78 = .ok (.aload_n 0, 1) := by decide +kernel
theorem dX9_close_79 : decode cX9_close 79 = .ok (.getfield 28, 3) := by decide +kernel
theorem dX9_close_82 : decode cX9_close 82 = .ok (.aload_n 0, 1) := by decide +kernel
theorem dX9_close_83 : decode cX9_close 83 = .ok (.getfield 94, 3) := by decide +kernel
theorem dX9_close_86 : decode cX9_close 86 = .ok (.iconst 1, 1) := by decide +kernel
theorem dX9_close_87 : decode cX9_close 87 = .ok (.isub, 1) := by decide +kernel
theorem dX9_close_88 : decode cX9_close 88 = .ok (.iaload, 1) := by decide +kernel
theorem dX9_close_89 : decode cX9_close 89 = .ok (.ireturn, 1) := by decide +kernel
theorem dX9_read_0 : decode cX9_read 0 = .ok (.aload_n 0, 1) := by decide +kernel
theorem dX9_read_1 : decode cX9_read 1 = .ok (.iconst 0, 1) := by decide +kernel
theorem dX9_read_2 : decode cX9_read 2 = .ok (.putfield 103, 3) := by decide +kernel
theorem dX9_read_5 : decode cX9_read 5 = .ok (.aload_n 0, 1) := by decide +kernel
theorem dX9_read_6 : decode cX9_read 6 = .ok (.iconst 0, 1) := by decide +kernel
theorem dX9_read_7 : decode cX9_read 7 = .ok (.putfield 94, 3) := by decide +kernel
theorem dX9_read_10 : decode cX9_read 10 = .ok (.aload_n 0, 1) := by decide +kernel
theorem dX9_read_11 : decode cX9_read 11 = .ok (.iconst 0, 1) := by decide +kernel
theorem dX9_read_12 : decode cX9_read 12 = .ok (.putfield 106, 3) := by decide +kernel
theorem dX9_read_15 : decode cX9_read 15 = .ok (.iconst 0, 1) := by decide +kernel
theorem dX9_read_16 : decode cX9_read 16 = .ok (.istore_n 1, 1) := by decide +kernel
theorem dX9_read_17 : decode cX9_read 17 = .ok (.iconst 0, 1) := by decide +kernel
theorem dX9_read_18 : decode cX9_read 18 = .ok (.istore_n 2, 1) := by decide +kernel
theorem dX9_read_19 : decode cX9_read 19 = .ok (.iload_n 2, 1) := by decide +kernel
theorem dX9_read_20 : decode cX9_read 20 = .ok (.aload_n 0, 1) := by decide +kernel
theorem dX9_read_21 : decode cX9_read 21 = .ok (.getfield 114, 3) := by decide +kernel
theorem dX9_read_24 : decode cX9_read 24 = .ok (.if_icmp .ge 45, 3) := by decide +kernel
theorem dX9_read_27 : decode cX9_read 27 = .ok (.iload_n 1, 1) := by decide +kernel
theorem dX9_read_28 : decode cX9_read 28 = .ok (.iconst 3, 1) := by decide +kernel
theorem dX9_read_29 : decode cX9_read 29 = .ok (.if_icmp .ne 16, 3) := by decide +kernel
theorem dX9_read_32 : decode cX9_read 32 = .ok (.aload_n 0, 1) := by decide +kernel
theorem dX9_read_33 : decode cX9_read 33 = .ok (.aload_n 0, 1) := by decide +kernel
theorem dX9_read_34 : decode cX9_read 34 = .ok (.getfield 22, 3) := by decide +kernel
theorem dX9_read_37 : decode cX9_read 37 = .ok (.iload_n 2, 1) := by decide +kernel
theorem dX9_read_38 : decode cX9_read 38 = .ok (.iaload, 1) := by decide +kernel
theorem dX9_read_39 : decode cX9_read 39 = .ok (.invokevirtual 117, 3) := by decide +kernel
theorem dX9_read_42 : decode cX9_read 42 = .ok (.goto 14, 3) := by decide +kernel
theorem dX9_read_45 : decode cX9_read 45 = .ok (.aload_n 0, 1) := by decide +kernel
theorem dX9_read_46 : decode cX9_read 46 = .ok (.aload_n 0, 1) := by decide +kernel
theorem dX9_read_47 : decode cX9_read 47 = .ok (.getfield 22, 3) := by decide +kernel
theorem dX9_read_50 : decode cX9_read 50 = .ok (.iload_n 2, 1) := by decide +kernel
theorem dX9_read_51 : decode cX9_read 51 = .ok (.iaload, 1) := by decide +kernel
theorem dX9_read_52 : decode cX9_read 52 = .ok (.iload_n 1, 1) := by decide +kernel
theorem dX9_read_53 : decode cX9_read 53 = .ok (.invokevirtual 120, 3) := by decide +kernel
theorem dX9_read_56 : decode cX9_read 56 = .ok (.istore_n 1, 1) := by decide +kernel
theorem dX9_read_57 : decode cX9_read 57 = .ok (.iload_n 1, 1) := by decide +kernel
theorem dX9_read_58 : decode cX9_read 58 = .ok (.ifCond .ge 5, 3) := by decide +kernel
theorem dX9_read_61 : decode cX9_read 61 = .ok (.iload_n 2, 1) := by decide +kernel
theorem dX9_read_62 : decode cX9_read 62 = .ok (.ireturn, 1) := by decide +kernel
theorem dX9_read_63 : decode cX9_read 63 = .ok (.iinc 2 1, 3) := by decide +kernel
theorem dX9_read_66 : decode cX9_read 66 = .ok (.goto (-47), 3) := by decide +kernel
theorem dX9_read_69 : decode cX9_read 69 = .ok (.iload_n 1, 1) := by decide +kernel
theorem dX9_read_70 : decode cX9_read 70 = .ok (.iconst 3, 1) := by decide +kernel
theorem dX9_read_71 : decode cX9_read 71 = .ok (.if_icmp .ne 11, 3) := by decide +kernel
theorem dX9_read_74 : decode cX9_read 74 = .ok (.aload_n 0, 1) := by decide +kernel
theorem dX9_read_75 : decode cX9_read 75 = .ok (.invokevirtual 124, 3) := by decide +kernel
theorem dX9_read_78 : decode cX9_read 78 = .ok (.iconst (-1), 1) := by decide +kernel
theorem dX9_read_79 : decode cX9_read 79 = .ok (.if_icmp .eq 10, 3) := by decide +kernel
theorem dX9_read_82 : decode cX9_read 82 = .ok (.aload_n 0, 1) := by decide +kernel
theorem dX9_read_83 : decode cX9_read 83 = .ok (.getfield 114, 3) := by decide +kernel
theorem dX9_read_86 : decode cX9_read 86 = .ok (.goto 4, 3) := by decide +kernel
theorem dX9_read_89 : decode cX9_read 89 = .ok (.iconst (-1), 1) := by decide +kernel
theorem dX9_read_90 : decode cX9_read 90 = .ok (.ireturn, 1) := by decide +kernel
theorem dX9_ahead_0 : decode cX9_ahead 0 = .ok (.iload_n 1, 1) := by decide +kernel
theorem dX9_ahead_1 : decode cX9_ahead 1 = .ok (.bipush 12, 2) := by decide +kernel
theorem dX9_ahead_3 : decode cX9_ahead 3 = .ok (.if_icmp .lt 25, 3) := by decide +kernel
theorem dX9_ahead_6 : decode cX9_ahead 6 = .ok (.aload_n 0, 1) := by decide +kernel
theorem dX9_ahead_7 : decode cX9_ahead 7 = .ok (.getfield 25, 3) := by decide +kernel
theorem dX9_ahead_10 : decode cX9_ahead 10 = .ok (.aload_n 0, 1) := by decide +kernel
theorem dX9_ahead_11 : decode cX9_ahead 11 = .ok (.getfield 103, 3) := by decide +kernel
theorem dX9_ahead_14 : decode cX9_ahead 14 = .ok (.iload_n 1, 1) := by decide +kernel
theorem dX9_ahead_15 : decode cX9_ahead 15 = .ok (.iastore, 1) := by decide +kernel
theorem dX9_ahead_16 : decode cX9_ahead 16 = .ok (.aload_n 0, 1) := by decide +kernel
theorem dX9_ahead_17 : decode cX9_ahead 17 = .ok (.dup, 1) := by decide +kernel
theorem dX9_ahead_18 : decode cX9_ahead 18 = .ok (.getfield 103, 3) := by decide +kernel
theorem dX9_ahead_21 : decode cX9_ahead 21 = .ok (.iconst 1, 1) := by decide +kernel
theorem dX9_ahead_22 : decode cX9_ahead 22 = .ok (.iadd, 1) := by decide +kernel
theorem dX9_ahead_23 : decode cX9_ahead 23 = .ok (.putfield 103, 3) := by decide +kernel
theorem dX9_ahead_26 : decode cX9_ahead 26 = .ok (.iconst 3, 1) := by decide +kernel
theorem dX9_ahead_27 : decode cX9_ahead 27 = .ok (.ireturn, 1) := by decide +kernel
theorem dX9_ahead_28 : decode cX9_ahead 28 = .ok (.iload_n 1, 1) := by decide +kernel
theorem dX9_ahead_29 : decode cX9_ahead 29 = .ok (.ifCond .ne 10, 3) := by decide +kernel
theorem dX9_ahead_32 : decode cX9_ahead 32 = .ok (.aload_n 0, 1) := by decide +kernel
theorem dX9_ahead_33 : decode cX9_ahead 33 = .ok (.iconst 0, 1) := by decide +kernel
theorem dX9_ahead_34 : decode cX9_ahead 34 = .ok (.invokevirtual 128, 3) := by decide +kernel
theorem dX9_ahead_37 : decode cX9_ahead 37 = .ok (.iconst 0, 1) := by decide +kernel
theorem dX9_ahead_38 : decode cX9_ahead 38 = .ok (.ireturn, 1) := by decide +kernel
theorem dX9_ahead_39 : decode cX9_ahead 39 = .ok (.iload_n 1, 1) := by decide +kernel
theorem dX9_ahead_40 : decode cX9_ahead 40 = .ok (.bipush 8, 2) := by decide +kernel
theorem dX9_ahead_42 : decode cX9_ahead 42 = .ok (.if_icmp .ne 31, 3) := by decide +kernel
theorem dX9_ahead_45 : decode cX9_ahead 45 = .ok (.iload_n 2, 1) := by decide +kernel
theorem dX9_ahead_46 : decode cX9_ahead 46 = .ok (.iconst 2, 1) := by decide +kernel
theorem dX9_ahead_47 : decode cX9_ahead 47 = .ok (.if_icmp .eq 26, 3) := by decide +kernel
theorem dX9_ahead_50 : decode cX9_ahead 50 = .ok (.aload_n 0, 1) := by decide +kernel
theorem dX9_ahead_51 : decode cX9_ahead 51 = .ok (.getfield 28, 3) := by decide +kernel
theorem dX9_ahead_54 : decode cX9_ahead 54 = .ok (.aload_n 0, 1) := by decide +kernel
theorem dX9_ahead_55 : decode cX9_ahead 55 = .ok (.getfield 94, 3) := by decide +kernel
theorem dX9_ahead_58 : decode cX9_ahead 58 = .ok (.bipush 8, 2) := by decide +kernel
theorem dX9_ahead_60 : decode cX9_ahead 60 = .ok (.iastore, 1) := by decide +kernel
theorem dX9_ahead_61 : decode cX9_ahead 61 = .ok (.aload_n 0, 1) := by decide +kernel
theorem dX9_ahead_62 : decode cX9_ahead 62 = .ok (.dup, 1) := by decide +kernel
theorem dX9_ahead_63 : decode cX9_ahead 63 = .ok (.getfield 94, 3) := by decide +kernel
theorem dX9_ahead_66 : decode cX9_ahead 66 = .ok (.iconst 1, 1) := by decide +kernel
theorem dX9_ahead_67 : decode cX9_ahead 67 = .ok (.iadd, 1) := by decide +kernel
theorem dX9_ahead_68 : decode cX9_ahead 68 = .ok (.putfield 94, 3) := by decide +kernel
theorem dX9_ahead_71 : decode cX9_ahead 71 = .ok (.iconst 1, 1) := by decide +kernel
theorem dX9_ahead_72 : decode cX9_ahead 72 = .ok (.ireturn, 1) := by decide +kernel
theorem dX9_ahead_73 : decode cX9_ahead 73 = .ok (.iload_n 1, 1) := by decide +kernel
theorem dX9_ahead_74 : decode cX9_ahead 74 = .ok (.bipush 9, 2) := by decide +kernel
theorem dX9_ahead_76 : decode cX9_ahead 76 = .ok (.if_icmp .ne 15, 3) := by decide +kernel
theorem dX9_ahead_79 : decode cX9_ahead 79 = .ok (.iload_n 2, 1) := by decide +kernel
theorem dX9_ahead_80 : decode cX9_ahead 80 = .ok (.ifCond .ne 11, 3) := by decide +kernel
theorem dX9_ahead_83 : decode cX9_ahead 83 = .ok (.aload_n 0, 1) := by decide +kernel
theorem dX9_ahead_84 : decode cX9_ahead 84 = .ok (.bipush 9, 2) := by decide +kernel
theorem dX9_ahead_86 : decode cX9_ahead 86 = .ok (.invokevirtual 128, 3) := by decide +kernel
theorem dX9_ahead_89 : decode cX9_ahead 89 = .ok (.iconst 0, 1) := by decide +kernel
theorem dX9_ahead_90 : decode cX9_ahead 90 = .ok (.ireturn, 1) := by decide +kernel
theorem dX9_ahead_91 : decode cX9_ahead 91 = .ok (.iconst (-1), 1) := by decide +kernel
theorem dX9_ahead_92 : decode cX9_ahead 92 = .ok (.ireturn, 1) := by decide +kernel
theorem dX9_behind_0 : decode cX9_behind 0 = .ok (.iload_n 1, 1) := by decide +kernel
theorem dX9_behind_1 : decode cX9_behind 1 = .ok (.iconst 4, 1) := by decide +kernel
theorem dX9_behind_2 : decode cX9_behind 2 = .ok (.if_icmp .eq 31, 3) := by decide +kernel
theorem dX9_behind_5 : decode cX9_behind 5 = .ok (.iload_n 1, 1) := by decide +kernel
theorem dX9_behind_6 : decode cX9_behind 6 = .ok (.iconst 2, 1) := by decide +kernel
theorem dX9_behind_7 : decode cX9_behind 7 = .ok (.if_icmp .eq 26, 3) := by decide +kernel
theorem dX9_behind_10 : decode cX9_behind 10 = .ok (.iload_n 1, 1) := by decide +kernel
theorem dX9_behind_11 : decode cX9_behind 11 = .ok (.iconst 3, 1) := by decide +kernel
theorem dX9_behind_12 : decode cX9_behind 12 = .ok (.if_icmp .eq 21, 3) := by decide +kernel
theorem dX9_behind_15 : decode cX9_behind 15 = .ok (.iload_n 1, 1) := by decide +kernel
theorem dX9_behind_16 : decode cX9_behind 16 = .ok (.iconst 5, 1) := by decide +kernel
theorem dX9_behind_17 : decode cX9_behind 17 = .ok (.if_icmp .eq 9, 3) := by decide +kernel
theorem dX9_behind_20 : decode cX9_behind 20 = .ok (.iload_n 1, 1) := by decide +kernel
theorem dX9_behind_21 : decode cX9_behind 21 = .ok (.bipush 6, 2) := by decide +kernel
theorem dX9_behind_23 : decode cX9_behind 23 = .ok (.if_icmp .ne 73, 3) := by decide +kernel
theorem dX9_behind_26 : decode cX9_behind 26 = .ok (.aload_n 0, 1) := by decide +kernel
theorem dX9_behind_27 : decode cX9_behind 27 = .ok (.getfield 106, 3) := by decide +kernel
theorem dX9_behind_30 : decode cX9_behind 30 = .ok (.ifCond .ne 66, 3) := by decide +kernel
theorem dX9_behind_33 : decode cX9_behind 33 = .ok (.aload_n 0, 1) := by decide +kernel
theorem dX9_behind_34 : decode cX9_behind 34 = .ok (.iload_n 1, 1) := by decide +kernel
theorem dX9_behind_35 : decode cX9_behind 35 = .ok (.iconst 4, 1) := by decide +kernel
theorem dX9_behind_36 : decode cX9_behind 36 = .ok (.if_icmp .ne 7, 3) := by decide +kernel
theorem dX9_behind_39 : decode cX9_behind 39 = .ok (.iconst 5, 1) := by decide +kernel
theorem dX9_behind_40 : decode cX9_behind 40 = .ok (.goto 4, 3) := by decide +kernel
theorem dX9_behind_43 : decode cX9_behind 43 = .ok (.iconst 4, 1) := by decide +kernel
theorem dX9_behind_44 : decode cX9_behind 44 = .ok (.invokevirtual 110, 3) := by decide +kernel
theorem dX9_behind_47 : decode cX9_behind 47 = .ok (.aload_n 0, 1) := by decide +kernel
theorem dX9_behind_48 : decode cX9_behind 48 = .ok (.aload_n 0, 1) := by decide +kernel
theorem dX9_behind_49 : decode cX9_behind 49 = .ok (.getfield 106, 3) := by decide +kernel
theorem dX9_behind_52 : decode cX9_behind 52 = .ok (.ifCond .ne 14, 3) := by decide +kernel
theorem dX9_behind_55 : decode cX9_behind 55 = .ok (.iload_n 1, 1) := by decide +kernel
theorem dX9_behind_56 : decode cX9_behind 56 = .ok (.iconst 5, 1) := by decide +kernel
theorem dX9_behind_57 : decode cX9_behind 57 = .ok (.if_icmp .eq 9, 3) := by decide +kernel
theorem dX9_behind_60 : decode cX9_behind 60 = .ok (.iload_n 1, 1) := by decide +kernel
theorem dX9_behind_61 : decode cX9_behind 61 = .ok (.bipush 6, 2) := by decide +kernel
theorem dX9_behind_63 : decode cX9_behind 63 = .ok (.if_icmp .ne 7, 3) := by decide +kernel
theorem dX9_behind_66 : decode cX9_behind 66 = .ok (.iconst 1, 1) := by decide +kernel
theorem dX9_behind_67 : decode cX9_behind 67 = .ok (.goto 4, 3) := by decide +kernel
theorem dX9_behind_70 : decode cX9_behind 70 = .ok (.iconst 0, 1) := by decide +kernel
theorem dX9_behind_71 : decode cX9_behind 71 = .ok (.putfield 106, 3) := by decide +kernel
theorem dX9_behind_74 : decode cX9_behind 74 = .ok (.aload_n 0, 1) := by decide +kernel
theorem dX9_behind_75 : decode cX9_behind 75 = .ok (.getfield 28, 3) := by decide +kernel
theorem dX9_behind_78 : decode cX9_behind 78 = .ok (.aload_n 0, 1) := by decide +kernel
theorem dX9_behind_79 : decode cX9_behind 79 = .ok (.getfield 94, 3) := by decide +kernel
theorem dX9_behind_82 : decode cX9_behind 82 = .ok (.iload_n 1, 1) := by decide +kernel
theorem dX9_behind_83 : decode cX9_behind 83 = .ok (.iastore, 1) := by decide +kernel
theorem dX9_behind_84 : decode cX9_behind 84 = .ok (.aload_n 0, 1) := by decide +kernel
theorem dX9_behind_85 : decode cX9_behind 85 = .ok (.dup, 1) := by decide +kernel
theorem dX9_behind_86 : decode cX9_behind 86 = .ok (.getfield 94, 3) := by decide +kernel
theorem dX9_behind_89 : decode cX9_behind 89 = .ok (.iconst 1, 1) := by decide +kernel
theorem dX9_behind_90 : decode cX9_behind 90 = .ok (.iadd, 1) := by decide +kernel
theorem dX9_behind_91 : decode cX9_behind 91 = .ok (.putfield 94, 3) := by decide +kernel
theorem dX9_behind_94 : decode cX9_behind 94 = .ok (.iconst 2, 1) := by decide +kernel
theorem dX9_behind_95 : decode cX9_behind 95 = .ok (.ireturn, 1) := by decide +kernel
theorem dX9_behind_96 : decode cX9_behind 96 = .ok (.iload_n 1, 1) := by decide +kernel
theorem dX9_behind_97 : decode cX9_behind 97 = .ok (.bipush 7, 2) := by decide +kernel
theorem dX9_behind_99 : decode cX9_behind 99 = .ok (.if_icmp .ne 36, 3) := by decide +kernel
theorem dX9_behind_102 : decode cX9_behind 102 = .ok (.aload_n 0, 1) := by decide +kernel
theorem dX9_behind_103 : decode cX9_behind 103 = .ok (.iconst 1, 1) := by decide +kernel
theorem dX9_behind_104 : decode cX9_behind 104 = .ok (.invokevirtual 110, 3) := by decide +kernel
theorem dX9_behind_107 : decode cX9_behind 107 = .ok (.aload_n 0, 1) := by decide +kernel
theorem dX9_behind_108 : decode cX9_behind 108 = .ok (.iconst 0, 1) := by decide +kernel
theorem dX9_behind_109 : decode cX9_behind 109 = .ok (.putfield 106, 3) := by decide +kernel
theorem dX9_behind_112 : decode cX9_behind 112 = .ok (.aload_n 0, 1) := by decide +kernel
theorem dX9_behind_113 : decode cX9_behind 113 = .ok (.getfield 28, 3) := by decide +kernel
theorem dX9_behind_116 : decode cX9_behind 116 = .ok (.aload_n 0, 1) := by decide +kernel
theorem dX9_behind_117 : decode cX9_behind 117 = .ok (.getfield 94, 3) := by decide +kernel
theorem dX9_behind_120 : decode cX9_behind 120 = .ok (.bipush 7, 2) := by decide +kernel
theorem dX9_behind_122 : decode cX9_behind 122 = .ok (.iastore, 1) := by decide +kernel
theorem dX9_behind_123 : decode cX9_behind 123 = .ok (.aload_n 0, 1) := by decide +kernel
theorem dX9_behind_124 : decode cX9_behind 124 = .ok (.dup, 1) := by decide +kernel
theorem dX9_behind_125 : decode cX9_behind 125 = .ok (.getfield 94, 3) := by decide +kernel
theorem dX9_behind_128 : decode cX9_behind 128 = .ok (.iconst 1, 1) := by decide +kernel
theorem dX9_behind_129 : decode cX9_behind 129 = .ok (.iadd, 1) := by decide +kernel
theorem dX9_behind_130 : decode cX9_behind 130 = .ok (.putfield 94, 3) := by decide +kernel
theorem dX9_behind_133 : decode cX9_behind 133 = .ok (.iconst 1, 1) := by decide +kernel
theorem dX9_behind_134 : decode cX9_behind 134 = .ok (.ireturn, 1) := by decide +kernel
theorem dX9_behind_135 : decode cX9_behind 135 = .ok (.iload_n 1, 1) := by decide +kernel
theorem dX9_behind_136 : decode cX9_behind 136 = .ok (.iconst 1, 1) := by decide +kernel
theorem dX9_behind_137 : decode cX9_behind 137 = .ok (.if_icmp .ne 7, 3) := by decide +kernel
theorem dX9_behind_140 : decode cX9_behind 140 = .ok (.iconst 0, 1) := by decide +kernel
theorem dX9_behind_141 : decode cX9_behind 141 = .ok (.goto 26, 3) := by decide +kernel
theorem dX9_behind_144 : decode cX9_behind 144 = .ok (.iload_n 1, 1) := by decide +kernel
theorem dX9_behind_145 : decode cX9_behind 145 = .ok (.bipush 10, 2) := by decide +kernel
theorem dX9_behind_147 : decode cX9_behind 147 = .ok (.if_icmp .ne 8, 3) := by decide +kernel
theorem dX9_behind_150 : decode cX9_behind 150 = .ok (.bipush 9, 2) := by decide +kernel
theorem dX9_behind_152 : decode cX9_behind 152 = .ok (.goto 15, 3) := by decide +kernel
theorem dX9_behind_155 : decode cX9_behind 155 = .ok (.iload_n 1, 1) := by decide +kernel
theorem dX9_behind_156 : decode cX9_behind 156 = .ok (.bipush 11, 2) := by decide +kernel
theorem dX9_behind_158 : decode cX9_behind 158 = .ok (.if_icmp .ne 8, 3) := by decide +kernel
theorem dX9_behind_161 : decode cX9_behind 161 = .ok (.bipush 10, 2) := by decide +kernel
theorem dX9_behind_163 : decode cX9_behind 163 = .ok (.goto 4, 3) := by decide +kernel
theorem dX9_behind_166 : decode cX9_behind 166 = .ok (.iconst (-1), 1) := by decide +kernel
theorem dX9_behind_167 : decode cX9_behind 167 = .ok (.istore_n 2, 1) := by decide +kernel
theorem dX9_behind_168 : decode cX9_behind 168 = .ok (.iload_n 2, 1) := by decide +kernel
theorem dX9_behind_169 : decode cX9_behind 169 = .ok (.ifCond .lt 11, 3) := by decide +kernel
theorem dX9_behind_172 : decode cX9_behind 172 = .ok (.aload_n 0, 1) := by decide +kernel
theorem dX9_behind_173 : decode cX9_behind 173 = .ok (.iload_n 2, 1) := by decide +kernel
theorem dX9_behind_174 : decode cX9_behind 174 = .ok (.invokevirtual 131, 3) := by decide +kernel
theorem dX9_behind_177 : decode cX9_behind 177 = .ok (.ifCond .ne 5, 3) := by decide +kernel
theorem dX9_behind_180 : decode cX9_behind 180 = .ok (.iconst (-1), 1) := by decide +kernel
theorem dX9_behind_181 : decode cX9_behind 181 = .ok (.ireturn, 1) := by decide +kernel
theorem dX9_behind_182 : decode cX9_behind 182 = .ok (.aload_n 0, 1) := by decide +kernel
theorem dX9_behind_183 : decode cX9_behind 183 = .ok (.invokevirtual 124, 3) := by decide +kernel
theorem dX9_behind_186 : decode cX9_behind 186 = .ok (.pop, 1) := by decide +kernel
theorem dX9_behind_187 : decode cX9_behind 187 = .ok (.iload_n 1, 1) := by decide +kernel
theorem dX9_behind_188 : decode cX9_behind 188 = .ok (.iconst 1, 1) := by decide +kernel
theorem dX9_behind_189 : decode cX9_behind 189 = .ok (.if_icmp .ne 37, 3) := by decide +kernel
theorem dX9_behind_192 : decode cX9_behind 192 = .ok (.aload_n 0, 1) := by decide +kernel
theorem dX9_behind_193 : decode cX9_behind 193 = .ok (.dup, 1) := by decide +kernel
theorem dX9_behind_194 : decode cX9_behind 194 = .ok (.getfield 94, 3) := by decide +kernel
theorem dX9_behind_197 : decode cX9_behind 197 = .ok (.iconst 2, 1) := by decide +kernel
theorem dX9_behind_198 : decode cX9_behind 198 = .ok (.isub, 1) := by decide +kernel
theorem dX9_behind_199 : decode cX9_behind 199 = .ok (.putfield 94, 3) := by decide +kernel
theorem dX9_behind_202 : decode cX9_behind 202 = .ok (.aload_n 0, 1) := by decide +kernel
theorem dX9_behind_203 : decode cX9_behind 203 = .ok (.aload_n 0, 1) := by decide +kernel
theorem dX9_behind_204 : decode cX9_behind 204 = .ok (.getfield 28, 3) := by decide +kernel
theorem dX9_behind_207 : decode cX9_behind 207 = .ok (.aload_n 0, 1) := by decide +kernel
theorem dX9_behind_208 : decode cX9_behind 208 = .ok (.getfield 94, 3) := by decide +kernel
theorem dX9_behind_211 : decode cX9_behind 211 = .ok (.iaload, 1) := by decide +kernel
theorem dX9_behind_212 : decode cX9_behind 212 = .ok (.iconst 1, 1) := by decide +kernel
theorem dX9_behind_213 : decode cX9_behind 213 = .ok (.if_icmp .ne 7, 3) := by decide +kernel
theorem dX9_behind_216 : decode cX9_behind 216 = .ok (.iconst 1, 1) := by decide +kernel
theorem dX9_behind_217 : decode cX9_behind 217 = .ok (.goto 4, 3) := by decide +kernel
theorem dX9_behind_220 : decode cX9_behind 220 = .ok (.iconst 0, 1) := by decide +kernel
theorem dX9_behind_221 : decode cX9_behind 221 = .ok (.putfield 106, 3) := by decide +kernel
theorem dX9_behind_224 : decode cX9_behind 224 = .ok (.iconst 3, 1) := by decide +kernel
theorem dX9_behind_225 : decode cX9_behind 225 = .ok (.ireturn, 1) := by decide +kernel
theorem dX9_behind_226 : decode cX9_behind 226 = .ok (.aload_n 0, 1) := by decide +kernel
theorem dX9_behind_227 : decode cX9_behind 227 = .ok (.getfield 28, 3) := by decide +kernel
theorem dX9_behind_230 : decode cX9_behind 230 = .ok (.aload_n 0, 1) := by decide +kernel
theorem dX9_behind_231 : decode cX9_behind 231 = .ok (.getfield 94, 3) := by decide +kernel
theorem dX9_behind_234 : decode cX9_behind 234 = .ok (.iconst 1, 1) := by decide +kernel
theorem dX9_behind_235 : decode cX9_behind 235 = .ok (.isub, 1) := by decide +kernel
theorem dX9_behind_236 : decode cX9_behind 236 = .ok (.iload_n 1, 1) := by decide +kernel
theorem dX9_behind_237 : decode cX9_behind 237 = .ok (.iastore, 1) := by decide +kernel
theorem dX9_behind_238 : decode cX9_behind 238 = .ok (.aload_n 0, 1) := by decide +kernel
theorem dX9_behind_239 : decode cX9_behind 239 = .ok (.iconst 0, 1) := by decide +kernel
theorem dX9_behind_240 : decode cX9_behind 240 = .ok (.putfield 106, 3) := by decide +kernel
theorem dX9_behind_243 : decode cX9_behind 243 = .ok (.iconst 0, 1) := by decide +kernel
theorem dX9_behind_244 : decode cX9_behind 244 = .ok (.ireturn, 1) := by decide +kernel
theorem dX9_hasFrame_0 : decode cX9_hasFrame 0 = .ok (.aload_n 0, 1) := by decide +kernel
theorem dX9_hasFrame_1 : decode cX9_hasFrame 1 = .ok (.getfield 94, 3) := by decide +kernel
theorem dX9_hasFrame_4 : decode cX9_hasFrame 4 = .ok (.iconst 1, 1) := by decide +kernel
theorem dX9_hasFrame_5 : decode cX9_hasFrame 5 = .ok (.isub, 1) := by decide +kernel
theorem dX9_hasFrame_6 : decode cX9_hasFrame 6 = .ok (.istore_n 2, 1) := by decide +kernel
theorem dX9_hasFrame_7 : decode cX9_hasFrame 7 = .ok (.iload_n 2, 1) := by decide +kernel
theorem dX9_hasFrame_8 : decode cX9_hasFrame 8 = .ok (.ifCond .lt 49, 3) := by decide +kernel
theorem dX9_hasFrame_11 : decode cX9_hasFrame 11 = .ok (.aload_n 0, 1) := by decide +kernel
theorem dX9_hasFrame_12 : decode cX9_hasFrame 12 = .ok (.getfield 28, 3) := by decide +kernel
theorem dX9_hasFrame_15 : decode cX9_hasFrame 15 = .ok (.iload_n 2, 1) := by decide +kernel
theorem dX9_hasFrame_16 : decode cX9_hasFrame 16 = .ok (.iaload, 1) := by decide +kernel
theorem dX9_hasFrame_17 : decode cX9_hasFrame 17 = .ok (.invokestatic 97, 3) := by decide +kernel
theorem dX9_hasFrame_20 : decode cX9_hasFrame 20 = .ok (.ifCond .eq 14, 3) := by decide +kernel
theorem dX9_hasFrame_23 : decode cX9_hasFrame 23 = .ok (.aload_n 0, 1) := by decide +kernel
theorem dX9_hasFrame_24 : decode cX9_hasFrame 24 = .ok (.getfield 28, 3) := by decide +kernel
theorem dX9_hasFrame_27 : decode cX9_hasFrame 27 = .ok (.iload_n 2, 1) := by decide +kernel
theorem dX9_hasFrame_28 : decode cX9_hasFrame 28 = .ok (.iaload, 1) := by decide +kernel
theorem dX9_hasFrame_29 : decode cX9_hasFrame 29 = .ok (.bipush 11, 2) := by decide +kernel
theorem dX9_hasFrame_31 : decode cX9_hasFrame 31 = .ok (.if_icmp .ne 26, 3) := by decide +kernel
theorem dX9_hasFrame_34 : decode cX9_hasFrame 34 = .ok (.iload_n 2, 1) := by decide +kernel
theorem dX9_hasFrame_35 : decode cX9_hasFrame 35 = .ok (.aload_n 0, 1) := by decide +kernel
theorem dX9_hasFrame_36 : decode cX9_hasFrame 36 = .ok (.getfield 28, 3) := by decide +kernel
theorem dX9_hasFrame_39 : decode cX9_hasFrame 39 = .ok (.iload_n 2, 1) := by decide +kernel
theorem dX9_hasFrame_40 : decode cX9_hasFrame 40 = .ok (.iaload, 1) := by decide +kernel
theorem dX9_hasFrame_41 : decode cX9_hasFrame 41 = .ok (.invokestatic 97, 3) := by decide +kernel
theorem dX9_hasFrame_44 : decode cX9_hasFrame 44 = .ok (.ifCond .eq 7, 3) := by decide +kernel
theorem dX9_hasFrame_47 : decode cX9_hasFrame 47 = .ok (.iconst 2, 1) := by decide +kernel
theorem dX9_hasFrame_48 : decode cX9_hasFrame 48 = .ok (.goto 4, 3) := by decide +kernel
theorem dX9_hasFrame_51 : decode cX9_hasFrame 51 = .ok (.iconst 1, 1) := by decide +kernel
theorem dX9_hasFrame_52 : decode cX9_hasFrame 52 = .ok (.isub, 1) := by decide +kernel
theorem dX9_hasFrame_53 : decode cX9_hasFrame 53 = .ok (.istore_n 2, 1) := by decide +kernel
theorem dX9_hasFrame_54 : decode cX9_hasFrame 54 = .ok (.goto (-47), 3) := by decide +kernel
theorem dX9_hasFrame_57 : decode cX9_hasFrame 57 = .ok (.iload_n 2, 1) := by decide +kernel
theorem dX9_hasFrame_58 : decode cX9_hasFrame 58 = .ok (.ifCond .lt 17, 3) := by decide +kernel
theorem dX9_hasFrame_61 : decode cX9_hasFrame 61 = .ok (.aload_n 0, 1) := by decide +kernel
theorem dX9_hasFrame_62 : decode cX9_hasFrame 62 = .ok (.getfield 28, 3) := by decide +kernel
theorem dX9_hasFrame_65 : decode cX9_hasFrame 65 = .ok (.iload_n 2, 1) := by decide +kernel
theorem dX9_hasFrame_66 : decode cX9_hasFrame 66 = .ok (.iaload, 1) := by decide +kernel
theorem dX9_hasFrame_67 : decode cX9_hasFrame 67 = .ok (.iload_n 1, 1) := by decide +kernel
theorem dX9_hasFrame_68 : decode cX9_hasFrame 68 = .ok (.if_icmp .ne 7, 3) := by decide +kernel
theorem dX9_hasFrame_71 : decode cX9_hasFrame 71 = .ok (.iconst 1, 1) := by decide +kernel
theorem dX9_hasFrame_72 : decode cX9_hasFrame 72 = .ok (.goto 4, 3) := by decide +kernel
theorem dX9_hasFrame_75 : decode cX9_hasFrame 75 = .ok (.iconst 0, 1) := by decide +kernel
theorem dX9_hasFrame_76 : decode cX9_hasFrame 76 = .ok (.ireturn, 1) := by decide +kernel
theorem dX9_kindOf_0 : decode cX9_kindOf 0 = .ok (.iconst 0, 1) := by decide +kernel
theorem dX9_kindOf_1 : decode cX9_kindOf 1 = .ok (.istore_n 1, 1) := by decide +kernel
theorem dX9_kindOf_2 : decode cX9_kindOf 2 = .ok (.iconst 0, 1) := by decide +kernel
theorem dX9_kindOf_3 : decode cX9_kindOf 3 = .ok (.istore_n 2, 1) := by decide +kernel
theorem dX9_kindOf_4 : decode cX9_kindOf 4 = .ok (.iload_n 2, 1) := by decide +kernel
theorem dX9_kindOf_5 : decode cX9_kindOf 5 = .ok (.aload_n 0, 1) := by decide +kernel
theorem dX9_kindOf_6 : decode cX9_kindOf 6 = .ok (.getfield 103, 3) := by decide +kernel
theorem dX9_kindOf_9 : decode cX9_kindOf 9 = .ok (.if_icmp .ge 225, 3) := by decide +kernel
theorem dX9_kindOf_12 : decode cX9_kindOf 12 = .ok (.aload_n 0, 1) := by decide +kernel
theorem dX9_kindOf_13 : decode cX9_kindOf 13 = .ok (.getfield 25, 3) := by decide +kernel
theorem dX9_kindOf_16 : decode cX9_kindOf 16 = .ok (.iload_n 2, 1) := by decide +kernel
theorem dX9_kindOf_17 : decode cX9_kindOf 17 = .ok (.iaload, 1) := by decide +kernel
theorem dX9_kindOf_18 : decode cX9_kindOf 18 = .ok (.istore_n 3, 1) := by decide +kernel
theorem dX9_kindOf_19 : decode cX9_kindOf 19 = .ok (.iload_n 3, 1) := by decide +kernel
theorem dX9_kindOf_20 : decode cX9_kindOf 20 = .ok (.bipush 12, 2) := by decide +kernel
theorem dX9_kindOf_22 : decode cX9_kindOf 22 = .ok (.if_icmp .lt 44, 3) := by decide +kernel
theorem dX9_kindOf_25 : decode cX9_kindOf 25 = .ok (.aload_n 0, 1) := by decide +kernel
theorem dX9_kindOf_26 : decode cX9_kindOf 26 = .ok (.getfield 31, 3) := by decide +kernel
theorem dX9_kindOf_29 : decode cX9_kindOf 29 = .ok (.iload_n 1, 1) := by decide +kernel
theorem dX9_kindOf_30 : decode cX9_kindOf 30 = .ok (.iload_n 3, 1) := by decide +kernel
theorem dX9_kindOf_31 : decode cX9_kindOf 31 = .ok (.bipush 14, 2) := by decide +kernel
theorem dX9_kindOf_33 : decode cX9_kindOf 33 = .ok (.if_icmp .ge 7, 3) := by decide +kernel
theorem dX9_kindOf_36 : decode cX9_kindOf 36 = .ok (.iconst 1, 1) := by decide +kernel
theorem dX9_kindOf_37 : decode cX9_kindOf 37 = .ok (.goto 22, 3) := by decide +kernel
theorem dX9_kindOf_40 : decode cX9_kindOf 40 = .ok (.iload_n 3, 1) := by decide +kernel
theorem dX9_kindOf_41 : decode cX9_kindOf 41 = .ok (.bipush 18, 2) := by decide +kernel
theorem dX9_kindOf_43 : decode cX9_kindOf 43 = .ok (.if_icmp .ge 15, 3) := by decide +kernel
theorem dX9_kindOf_46 : decode cX9_kindOf 46 = .ok (.aload_n 0, 1) := by decide +kernel
theorem dX9_kindOf_47 : decode cX9_kindOf 47 = .ok (.getfield 13, 3) := by decide +kernel
theorem dX9_kindOf_50 : decode cX9_kindOf 50 = .ok (.iload_n 3, 1) := by decide +kernel
theorem dX9_kindOf_51 : decode cX9_kindOf 51 = .ok (.bipush 14, 2) := by decide +kernel
theorem dX9_kindOf_53 : decode cX9_kindOf 53 = .ok (.isub, 1) := by decide +kernel
theorem dX9_kindOf_54 : decode cX9_kindOf 54 = .ok (.iaload, 1) := by decide +kernel
theorem dX9_kindOf_55 : decode cX9_kindOf 55 = .ok (.goto 4, 3) := by decide +kernel
theorem dX9_kindOf_58 : decode cX9_kindOf 58 = .ok (.iconst 0, 1) := by decide +kernel
theorem dX9_kindOf_59 : decode cX9_kindOf 59 = .ok (.iastore, 1) := by decide +kernel
theorem dX9_kindOf_60 : decode cX9_kindOf 60 = .ok (.iinc 1 1, 3) := by decide +kernel
theorem dX9_kindOf_63 : decode cX9_kindOf 63 = .ok (.goto 165, 3) := by decide +kernel
theorem dX9_kindOf_66 : decode cX9_kindOf 66 = .ok (.iload_n 3, 1) := by decide +kernel
theorem dX9_kindOf_67 : decode cX9_kindOf 67 = .ok (.bipush 8, 2) := by decide +kernel
theorem dX9_kindOf_69 : decode cX9_kindOf 69 = .ok (.if_icmp .ne 17, 3) := by decide +kernel
theorem dX9_kindOf_72 : decode cX9_kindOf 72 = .ok (.aload_n 0, 1) := by decide +kernel
theorem dX9_kindOf_73 : decode cX9_kindOf 73 = .ok (.getfield 31, 3) := by decide +kernel
theorem dX9_kindOf_76 : decode cX9_kindOf 76 = .ok (.iload_n 1, 1) := by decide +kernel
theorem dX9_kindOf_77 : decode cX9_kindOf 77 = .ok (.iconst 1, 1) := by decide +kernel
theorem dX9_kindOf_78 : decode cX9_kindOf 78 = .ok (.isub, 1) := by decide +kernel
theorem dX9_kindOf_79 : decode cX9_kindOf 79 = .ok (.iaload, 1) := by decide +kernel
theorem dX9_kindOf_80 : decode cX9_kindOf 80 = .ok (.iconst 1, 1) := by decide +kernel
theorem dX9_kindOf_81 : decode cX9_kindOf 81 = .ok (.if_icmp .eq 147, 3) := by decide +kernel
theorem dX9_kindOf_84 : decode cX9_kindOf 84 = .ok (.iconst (-1), 1) := by decide +kernel
theorem dX9_kindOf_85 : decode cX9_kindOf 85 = .ok (.ireturn, 1) := by decide +kernel
theorem dX9_kindOf_86 : decode cX9_kindOf 86 = .ok (.iload_n 3, 1) := by decide +kernel
theorem dX9_kindOf_87 : decode cX9_kindOf 87 = .ok (.bipush 9, 2) := by decide +kernel
theorem dX9_kindOf_89 : decode cX9_kindOf 89 = .ok (.if_icmp .ne 54, 3) := by decide +kernel
theorem dX9_kindOf_92 : decode cX9_kindOf 92 = .ok (.iinc 1 (-2), 3) := by decide +kernel
theorem dX9_kindOf_95 : decode cX9_kindOf 95 = .ok (.aload_n 0, 1) := by decide +kernel
theorem dX9_kindOf_96 : decode cX9_kindOf 96 = .ok (.getfield 31, 3) := by decide +kernel
theorem dX9_kindOf_99 : decode cX9_kindOf 99 = .ok (.iload_n 1, 1) := by decide +kernel
theorem dX9_kindOf_100 : decode cX9_kindOf 100 = .ok (.iconst 1, 1) := by decide +kernel
theorem dX9_kindOf_101 : decode cX9_kindOf 101 = .ok (.isub, 1) := by decide +kernel
theorem dX9_kindOf_102 : decode cX9_kindOf 102 = .ok (.iaload, 1) := by decide +kernel
theorem dX9_kindOf_103 : decode cX9_kindOf 103 = .ok (.iconst 1, 1) := by decide +kernel
theorem dX9_kindOf_104 : decode cX9_kindOf 104 = .ok (.if_icmp .ne 20, 3) := by decide +kernel
theorem dX9_kindOf_107 : decode cX9_kindOf 107 = .ok (.aload_n 0, 1) := by decide +kernel
theorem dX9_kindOf_108 : decode cX9_kindOf 108 = .ok (.getfield 31, 3) := by decide +kernel
theorem dX9_kindOf_111 : decode cX9_kindOf 111 = .ok (.iload_n 1, 1) := by decide +kernel
theorem dX9_kindOf_112 : decode cX9_kindOf 112 = .ok (.iaload, 1) := by decide +kernel
theorem dX9_kindOf_113 : decode cX9_kindOf 113 = .ok (.aload_n 0, 1) := by decide +kernel
theorem dX9_kindOf_114 : decode cX9_kindOf 114 = .ok (.getfield 31, 3) := by decide +kernel
theorem dX9_kindOf_117 : decode cX9_kindOf 117 = .ok (.iload_n 1, 1) := by decide +kernel
theorem dX9_kindOf_118 : decode cX9_kindOf 118 = .ok (.iconst 1, 1) := by decide +kernel
theorem dX9_kindOf_119 : decode cX9_kindOf 119 = .ok (.iadd, 1) := by decide +kernel
theorem dX9_kindOf_120 : decode cX9_kindOf 120 = .ok (.iaload, 1) := by decide +kernel
theorem dX9_kindOf_121 : decode cX9_kindOf 121 = .ok (.if_icmp .eq 5, 3) := by decide +kernel
theorem dX9_kindOf_124 : decode cX9_kindOf 124 = .ok (.iconst (-1), 1) := by decide +kernel
theorem dX9_kindOf_125 : decode cX9_kindOf 125 = .ok (.ireturn, 1) := by decide +kernel
theorem dX9_kindOf_126 : decode cX9_kindOf 126 = .ok (.aload_n 0, 1) := by decide +kernel
theorem dX9_kindOf_127 : decode cX9_kindOf 127 = .ok (.getfield 31, 3) := by decide +kernel
theorem dX9_kindOf_130 : decode cX9_kindOf 130 = .ok (.iload_n 1, 1) := by decide +kernel
theorem dX9_kindOf_131 : decode cX9_kindOf 131 = .ok (.iconst 1, 1) := by decide +kernel
theorem dX9_kindOf_132 : decode cX9_kindOf 132 = .ok (.isub, 1) := by decide +kernel
theorem dX9_kindOf_133 : decode cX9_kindOf 133 = .ok (.aload_n 0, 1) := by decide +kernel
theorem dX9_kindOf_134 : decode cX9_kindOf 134 = .ok (.getfield 31, 3) := by decide +kernel
theorem dX9_kindOf_137 : decode cX9_kindOf 137 = .ok (.iload_n 1, 1) := by decide +kernel
theorem dX9_kindOf_138 : decode cX9_kindOf 138 = .ok (.iaload, 1) := by decide +kernel
theorem dX9_kindOf_139 : decode cX9_kindOf 139 = .ok (.iastore, 1) := by decide +kernel
theorem dX9_kindOf_140 : decode cX9_kindOf 140 = .ok (.goto 88, 3) := by decide +kernel
theorem dX9_kindOf_143 : decode cX9_kindOf 143 = .ok (.iinc 1 (-1), 3) := by decide +kernel
theorem dX9_kindOf_146 : decode cX9_kindOf 146 = .ok (.iload_n 3, 1) := by decide +kernel
theorem dX9_kindOf_147 : decode cX9_kindOf 147 = .ok (.bipush 7, 2) := by decide +kernel
theorem dX9_kindOf_149 : decode cX9_kindOf 149 = .ok (.if_icmp .ne 7, 3) := by decide +kernel
theorem dX9_kindOf_152 : decode cX9_kindOf 152 = .ok (.iconst 1, 1) := by decide +kernel
theorem dX9_kindOf_153 : decode cX9_kindOf 153 = .ok (.goto 19, 3) := by decide +kernel
theorem dX9_kindOf_156 : decode cX9_kindOf 156 = .ok (.iload_n 3, 1) := by decide +kernel
theorem dX9_kindOf_157 : decode cX9_kindOf 157 = .ok (.bipush 6, 2) := by decide +kernel
theorem dX9_kindOf_159 : decode cX9_kindOf 159 = .ok (.if_icmp .ne 12, 3) := by decide +kernel
theorem dX9_kindOf_162 : decode cX9_kindOf 162 = .ok (.aload_n 0, 1) := by decide +kernel
theorem dX9_kindOf_163 : decode cX9_kindOf 163 = .ok (.getfield 31, 3) := by decide +kernel
theorem dX9_kindOf_166 : decode cX9_kindOf 166 = .ok (.iload_n 1, 1) := by decide +kernel
theorem dX9_kindOf_167 : decode cX9_kindOf 167 = .ok (.iaload, 1) := by decide +kernel
theorem dX9_kindOf_168 : decode cX9_kindOf 168 = .ok (.goto 4, 3) := by decide +kernel
theorem dX9_kindOf_171 : decode cX9_kindOf 171 = .ok (.iconst 0, 1) := by decide +kernel
theorem dX9_kindOf_172 : decode cX9_kindOf 172 = .ok (.istore 4, 2) := by decide +kernel
theorem dX9_kindOf_174 : decode cX9_kindOf 174 = .ok (.aload_n 0, 1) := by decide +kernel
theorem dX9_kindOf_175 : decode cX9_kindOf 175 = .ok (.getfield 31, 3) := by decide +kernel
theorem dX9_kindOf_178 : decode cX9_kindOf 178 = .ok (.iload_n 1, 1) := by decide +kernel
theorem dX9_kindOf_179 : decode cX9_kindOf 179 = .ok (.iconst 1, 1) := by decide +kernel
theorem dX9_kindOf_180 : decode cX9_kindOf 180 = .ok (.isub, 1) := by decide +kernel
theorem dX9_kindOf_181 : decode cX9_kindOf 181 = .ok (.iaload, 1) := by decide +kernel
theorem dX9_kindOf_182 : decode cX9_kindOf 182 = .ok (.iload 4, 2) := by decide +kernel
theorem dX9_kindOf_184 : decode cX9_kindOf 184 = .ok (.if_icmp .ne 14, 3) := by decide +kernel
theorem dX9_kindOf_187 : decode cX9_kindOf 187 = .ok (.aload_n 0, 1) := by decide +kernel
theorem dX9_kindOf_188 : decode cX9_kindOf 188 = .ok (.getfield 31, 3) := by decide +kernel
theorem dX9_kindOf_191 : decode cX9_kindOf 191 = .ok (.iload_n 1, 1) := by decide +kernel
theorem dX9_kindOf_192 : decode cX9_kindOf 192 = .ok (.iaload, 1) := by decide +kernel
theorem dX9_kindOf_193 : decode cX9_kindOf 193 = .ok (.iload 4, 2) := by decide +kernel
theorem dX9_kindOf_195 : decode cX9_kindOf 195 = .ok (.if_icmp .eq 5, 3) := by decide +kernel
theorem dX9_kindOf_198 : decode cX9_kindOf 198 = .ok (.iconst (-1), 1) := by decide +kernel
theorem dX9_kindOf_199 : decode cX9_kindOf 199 = .ok (.ireturn, 1) := by decide +kernel
theorem dX9_kindOf_200 : decode cX9_kindOf 200 = .ok (.aload_n 0, 1) := by decide +kernel
theorem dX9_kindOf_201 : decode cX9_kindOf 201 = .ok (.getfield 31, 3) := by decide +kernel
theorem dX9_kindOf_204 : decode cX9_kindOf 204 = .ok (.iload_n 1, 1) := by decide +kernel
theorem dX9_kindOf_205 : decode cX9_kindOf 205 = .ok (.iconst 1, 1) := by decide +kernel
theorem dX9_kindOf_206 : decode cX9_kindOf 206 = .ok (.isub, 1) := by decide +kernel
theorem dX9_kindOf_207 : decode cX9_kindOf 207 = .ok (.iload_n 3, 1) := by decide +kernel
theorem dX9_kindOf_208 : decode cX9_kindOf 208 = .ok (.iconst 2, 1) := by decide +kernel
theorem dX9_kindOf_209 : decode cX9_kindOf 209 = .ok (.if_icmp .eq 13, 3) := by decide +kernel
theorem dX9_kindOf_212 : decode cX9_kindOf 212 = .ok (.iload_n 3, 1) := by decide +kernel
theorem dX9_kindOf_213 : decode cX9_kindOf 213 = .ok (.iconst 3, 1) := by decide +kernel
theorem dX9_kindOf_214 : decode cX9_kindOf 214 = .ok (.if_icmp .eq 8, 3) := by decide +kernel
theorem dX9_kindOf_217 : decode cX9_kindOf 217 = .ok (.iload_n 3, 1) := by decide +kernel
theorem dX9_kindOf_218 : decode cX9_kindOf 218 = .ok (.iconst 4, 1) := by decide +kernel
theorem dX9_kindOf_219 : decode cX9_kindOf 219 = .ok (.if_icmp .ne 7, 3) := by decide +kernel
theorem dX9_kindOf_222 : decode cX9_kindOf 222 = .ok (.iconst 0, 1) := by decide +kernel
theorem dX9_kindOf_223 : decode cX9_kindOf 223 = .ok (.goto 4, 3) := by decide +kernel
theorem dX9_kindOf_226 : decode cX9_kindOf 226 = .ok (.iconst 1, 1) := by decide +kernel
theorem dX9_kindOf_227 : decode cX9_kindOf 227 = .ok (.iastore, 1) := by decide +kernel
theorem dX9_kindOf_228 : decode cX9_kindOf 228 = .ok (.iinc 2 1, 3) := by decide +kernel
theorem dX9_kindOf_231 : decode cX9_kindOf 231 = .ok (.goto (-227), 3) := by decide +kernel
theorem dX9_kindOf_234 : decode cX9_kindOf 234 = .ok (.aload_n 0, 1) := by decide +kernel
theorem dX9_kindOf_235 : decode cX9_kindOf 235 = .ok (.getfield 31, 3) := by decide +kernel
theorem dX9_kindOf_238 : decode cX9_kindOf 238 = .ok (.iconst 0, 1) := by decide +kernel
theorem dX9_kindOf_239 : decode cX9_kindOf 239 = .ok (.iaload, 1) := by decide +kernel
theorem dX9_kindOf_240 : decode cX9_kindOf 240 = .ok (.ireturn, 1) := by decide +kernel
theorem dX9_valueOf_0 : decode cX9_valueOf 0 = .ok (.iconst 0, 1) := by decide +kernel
theorem dX9_valueOf_1 : decode cX9_valueOf 1 = .ok (.istore_n 1, 1) := by decide +kernel
theorem dX9_valueOf_2 : decode cX9_valueOf 2 = .ok (.iconst 0, 1) := by decide +kernel
theorem dX9_valueOf_3 : decode cX9_valueOf 3 = .ok (.istore_n 2, 1) := by decide +kernel
theorem dX9_valueOf_4 : decode cX9_valueOf 4 = .ok (.iload_n 2, 1) := by decide +kernel
theorem dX9_valueOf_5 : decode cX9_valueOf 5 = .ok (.aload_n 0, 1) := by decide +kernel
theorem dX9_valueOf_6 : decode cX9_valueOf 6 = .ok (.getfield 103, 3) := by decide +kernel
theorem dX9_valueOf_9 : decode cX9_valueOf 9 = .ok (.if_icmp .ge 322, 3) := by decide +kernel
theorem dX9_valueOf_12 : decode cX9_valueOf 12 = .ok (.aload_n 0, 1) := by decide +kernel
theorem dX9_valueOf_13 : decode cX9_valueOf 13 = .ok (.getfield 25, 3) := by decide +kernel
theorem dX9_valueOf_16 : decode cX9_valueOf 16 = .ok (.iload_n 2, 1) := by decide +kernel
theorem dX9_valueOf_17 : decode cX9_valueOf 17 = .ok (.iaload, 1) := by decide +kernel
theorem dX9_valueOf_18 : decode cX9_valueOf 18 = .ok (.istore_n 3, 1) := by decide +kernel
theorem dX9_valueOf_19 : decode cX9_valueOf 19 = .ok (.iload_n 3, 1) := by decide +kernel
theorem dX9_valueOf_20 : decode cX9_valueOf 20 = .ok (.bipush 12, 2) := by decide +kernel
theorem dX9_valueOf_22 : decode cX9_valueOf 22 = .ok (.if_icmp .lt 100, 3) := by decide +kernel
theorem dX9_valueOf_25 : decode cX9_valueOf 25 = .ok (.iload_n 3, 1) := by decide +kernel
theorem dX9_valueOf_26 : decode cX9_valueOf 26 = .ok (.bipush 18, 2) := by decide +kernel
theorem dX9_valueOf_28 : decode cX9_valueOf 28 = .ok (.if_icmp .lt 10, 3) := by decide +kernel
theorem dX9_valueOf_31 : decode cX9_valueOf 31 = .ok (.iload_n 3, 1) := by decide +kernel
theorem dX9_valueOf_32 : decode cX9_valueOf 32 = .ok (.bipush 18, 2) := by decide +kernel
theorem dX9_valueOf_34 : decode cX9_valueOf 34 = .ok (.isub, 1) := by decide +kernel
theorem dX9_valueOf_35 : decode cX9_valueOf 35 = .ok (.goto 32, 3) := by decide +kernel
theorem dX9_valueOf_38 : decode cX9_valueOf 38 = .ok (.iload_n 3, 1) := by decide +kernel
theorem dX9_valueOf_39 : decode cX9_valueOf 39 = .ok (.bipush 14, 2) := by decide +kernel
theorem dX9_valueOf_41 : decode cX9_valueOf 41 = .ok (.if_icmp .lt 15, 3) := by decide +kernel
theorem dX9_valueOf_44 : decode cX9_valueOf 44 = .ok (.aload_n 0, 1) := by decide +kernel
theorem dX9_valueOf_45 : decode cX9_valueOf 45 = .ok (.getfield 34, 3) := by decide +kernel
theorem dX9_valueOf_48 : decode cX9_valueOf 48 = .ok (.iload_n 3, 1) := by decide +kernel
theorem dX9_valueOf_49 : decode cX9_valueOf 49 = .ok (.bipush 14, 2) := by decide +kernel
theorem dX9_valueOf_51 : decode cX9_valueOf 51 = .ok (.isub, 1) := by decide +kernel
theorem dX9_valueOf_52 : decode cX9_valueOf 52 = .ok (.iaload, 1) := by decide +kernel
theorem dX9_valueOf_53 : decode cX9_valueOf 53 = .ok (.goto 14, 3) := by decide +kernel
theorem dX9_valueOf_56 : decode cX9_valueOf 56 = .ok (.iload_n 3, 1) := by decide +kernel
theorem dX9_valueOf_57 : decode cX9_valueOf 57 = .ok (.bipush 12, 2) := by decide +kernel
theorem dX9_valueOf_59 : decode cX9_valueOf 59 = .ok (.if_icmp .ne 7, 3) := by decide +kernel
theorem dX9_valueOf_62 : decode cX9_valueOf 62 = .ok (.iconst 1, 1) := by decide +kernel
theorem dX9_valueOf_63 : decode cX9_valueOf 63 = .ok (.goto 4, 3) := by decide +kernel
theorem dX9_valueOf_66 : decode cX9_valueOf 66 = .ok (.iconst 0, 1) := by decide +kernel
theorem dX9_valueOf_67 : decode cX9_valueOf 67 = .ok (.istore 4, 2) := by decide +kernel
theorem dX9_valueOf_69 : decode cX9_valueOf 69 = .ok (.aload_n 0, 1) := by decide +kernel
theorem dX9_valueOf_70 : decode cX9_valueOf 70 = .ok (.getfield 37, 3) := by decide +kernel
theorem dX9_valueOf_73 : decode cX9_valueOf 73 = .ok (.iload_n 1, 1) := by decide +kernel
theorem dX9_valueOf_74 : decode cX9_valueOf 74 = .ok (.iload_n 3, 1) := by decide +kernel
theorem dX9_valueOf_75 : decode cX9_valueOf 75 = .ok (.bipush 14, 2) := by decide +kernel
theorem dX9_valueOf_77 : decode cX9_valueOf 77 = .ok (.if_icmp .lt 35, 3) := by decide +kernel
theorem dX9_valueOf_80 : decode cX9_valueOf 80 = .ok (.iload_n 3, 1) := by decide +kernel
theorem dX9_valueOf_81 : decode cX9_valueOf 81 = .ok (.bipush 18, 2) := by decide +kernel
theorem dX9_valueOf_83 : decode cX9_valueOf 83 = .ok (.if_icmp .ge 29, 3) := by decide +kernel
theorem dX9_valueOf_86 : decode cX9_valueOf 86 = .ok (.aload_n 0, 1) := by decide +kernel
theorem dX9_valueOf_87 : decode cX9_valueOf 87 = .ok (.getfield 13, 3) := by decide +kernel
theorem dX9_valueOf_90 : decode cX9_valueOf 90 = .ok (.iload_n 3, 1) := by decide +kernel
theorem dX9_valueOf_91 : decode cX9_valueOf 91 = .ok (.bipush 14, 2) := by decide +kernel
theorem dX9_valueOf_93 : decode cX9_valueOf 93 = .ok (.isub, 1) := by decide +kernel
theorem dX9_valueOf_94 : decode cX9_valueOf 94 = .ok (.iaload, 1) := by decide +kernel
theorem dX9_valueOf_95 : decode cX9_valueOf 95 = .ok (.iconst 1, 1) := by decide +kernel
theorem dX9_valueOf_96 : decode cX9_valueOf 96 = .ok (.if_icmp .ne 16, 3) := by decide +kernel
theorem dX9_valueOf_99 : decode cX9_valueOf 99 = .ok (.iload 4, 2) := by decide +kernel
theorem dX9_valueOf_101 : decode cX9_valueOf 101 = .ok (.ifCond .eq 7, 3) := by decide +kernel
theorem dX9_valueOf_104 : decode cX9_valueOf 104 = .ok (.lconst 1, 1) := by decide +kernel
theorem dX9_valueOf_105 : decode cX9_valueOf 105 = .ok (.goto 10, 3) := by decide +kernel
theorem dX9_valueOf_108 : decode cX9_valueOf 108 = .ok (.lconst 0, 1) := by decide +kernel
theorem dX9_valueOf_109 : decode cX9_valueOf 109 = .ok (.goto 6, 3) := by decide +kernel
theorem dX9_valueOf_112 : decode cX9_valueOf 112 = .ok (.iload 4, 2) := by decide +kernel
theorem dX9_valueOf_114 : decode cX9_valueOf 114 = .ok (.i2l, 1) := by decide +kernel
theorem dX9_valueOf_115 : decode cX9_valueOf 115 = .ok (.lastore, 1) := by decide +kernel
theorem dX9_valueOf_116 : decode cX9_valueOf 116 = .ok (.iinc 1 1, 3) := by decide +kernel
theorem dX9_valueOf_119 : decode cX9_valueOf 119 = .ok (.goto 183, 3) := by decide +kernel
theorem dX9_valueOf_122 : decode cX9_valueOf 122 = .ok (.iload_n 3, 1) := by decide +kernel
theorem dX9_valueOf_123 : decode cX9_valueOf 123 = .ok (.bipush 8, 2) := by decide +kernel
theorem dX9_valueOf_125 : decode cX9_valueOf 125 = .ok (.if_icmp .ne 24, 3) := by decide +kernel
theorem dX9_valueOf_128 : decode cX9_valueOf 128 = .ok (.aload_n 0, 1) := by decide +kernel
theorem dX9_valueOf_129 : decode cX9_valueOf 129 = .ok (.getfield 37, 3) := by decide +kernel
theorem dX9_valueOf_132 : decode cX9_valueOf 132 = .ok (.iload_n 1, 1) := by decide +kernel
theorem dX9_valueOf_133 : decode cX9_valueOf 133 = .ok (.iconst 1, 1) := by decide +kernel
theorem dX9_valueOf_134 : decode cX9_valueOf 134 = .ok (.isub, 1) := by decide +kernel
theorem dX9_valueOf_135 : decode cX9_valueOf 135 = .ok (.lconst 1, 1) := by decide +kernel
theorem dX9_valueOf_136 : decode cX9_valueOf 136 = .ok (.aload_n 0, 1) := by decide +kernel
theorem dX9_valueOf_137 : decode cX9_valueOf 137 = .ok (.getfield 37, 3) := by decide +kernel
