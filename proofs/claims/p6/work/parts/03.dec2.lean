theorem dX6_init_9 : decode cX6_init 9 = .ok (.putfield 9, 3) := by decide +kernel
theorem dX6_init_12 : decode cX6_init 12 = .ok (.aload_n 0, 1) := by decide +kernel
theorem dX6_init_13 : decode cX6_init 13 = .ok (.bipush 12, 2) := by decide +kernel
theorem dX6_init_15 : decode cX6_init 15 = .ok (.newarray .int, 2) := by decide +kernel
theorem dX6_init_17 : decode cX6_init 17 = .ok (.putfield 15, 3) := by decide +kernel
theorem dX6_init_20 : decode cX6_init 20 = .ok (.aload_n 0, 1) := by decide +kernel
theorem dX6_init_21 : decode cX6_init 21 = .ok (.bipush 12, 2) := by decide +kernel
theorem dX6_init_23 : decode cX6_init 23 = .ok (.newarray .int, 2) := by decide +kernel
theorem dX6_init_25 : decode cX6_init 25 = .ok (.putfield 18, 3) := by decide +kernel
theorem dX6_init_28 : decode cX6_init 28 = .ok (.aload_n 0, 1) := by decide +kernel
theorem dX6_init_29 : decode cX6_init 29 = .ok (.iconst 0, 1) := by decide +kernel
theorem dX6_init_30 : decode cX6_init 30 = .ok (.putfield 21, 3) := by decide +kernel
theorem dX6_init_33 : decode cX6_init 33 = .ok (.aload_n 0, 1) := by decide +kernel
theorem dX6_init_34 : decode cX6_init 34 = .ok (.iconst 0, 1) := by decide +kernel
theorem dX6_init_35 : decode cX6_init 35 = .ok (.putfield 25, 3) := by decide +kernel
theorem dX6_init_38 : decode cX6_init 38 = .ok (.aload_n 0, 1) := by decide +kernel
theorem dX6_init_39 : decode cX6_init 39 = .ok (.iconst 0, 1) := by decide +kernel
theorem dX6_init_40 : decode cX6_init 40 = .ok (.putfield 28, 3) := by decide +kernel
theorem dX6_init_43 : decode cX6_init 43 = .ok (.aload_n 0, 1) := by decide +kernel
theorem dX6_init_44 : decode cX6_init 44 = .ok (.iconst 0, 1) := by decide +kernel
theorem dX6_init_45 : decode cX6_init 45 = .ok (.putfield 31, 3) := by decide +kernel
theorem dX6_init_48 : decode cX6_init 48 = .ok (.aload_n 0, 1) := by decide +kernel
theorem dX6_init_49 : decode cX6_init 49 = .ok (.iconst (-1), 1) := by decide +kernel
theorem dX6_init_50 : decode cX6_init 50 = .ok (.putfield 35, 3) := by decide +kernel
theorem dX6_init_53 : decode cX6_init 53 = .ok (.return_, 1) := by decide +kernel
theorem dX6_kindMade_0 : decode cX6_kindMade 0 = .ok (.aload_n 0, 1) := by decide +kernel
theorem dX6_kindMade_1 : decode cX6_kindMade 1 = .ok (.getfield 35, 3) := by decide +kernel
theorem dX6_kindMade_4 : decode cX6_kindMade 4 = .ok (.ireturn, 1) := by decide +kernel
theorem dX6_understand_0 : decode cX6_understand 0 = .ok (.aload_n 0, 1) := by decide +kernel
theorem dX6_understand_1 : decode cX6_understand 1 = .ok (.iconst 0, 1) := by decide +kernel
theorem dX6_understand_2 : decode cX6_understand 2 = .ok (.putfield 21, 3) := by decide +kernel
theorem dX6_understand_5 : decode cX6_understand 5 = .ok (.aload_n 0, 1) := by decide +kernel
theorem dX6_understand_6 : decode cX6_understand 6 = .ok (.iconst 0, 1) := by decide +kernel
theorem dX6_understand_7 : decode cX6_understand 7 = .ok (.putfield 25, 3) := by decide +kernel
theorem dX6_understand_10 : decode cX6_understand 10 = .ok (.aload_n 0, 1) := by decide +kernel
theorem dX6_understand_11 : decode cX6_understand 11 = .ok (.iconst 0, 1) := by decide +kernel
theorem dX6_understand_12 : decode cX6_understand 12 = .ok (.putfield 28, 3) := by decide +kernel
theorem dX6_understand_15 : decode cX6_understand 15 = .ok (.aload_n 0, 1) := by decide +kernel
theorem dX6_understand_16 : decode cX6_understand 16 = .ok (.iconst 1, 1) := by decide +kernel
theorem dX6_understand_17 : decode cX6_understand 17 = .ok (.putfield 31, 3) := by decide +kernel
theorem dX6_understand_20 : decode cX6_understand 20 = .ok (.iconst 0, 1) := by decide +kernel
theorem dX6_understand_21 : decode cX6_understand 21 = .ok (.istore_n 3, 1) := by decide +kernel
theorem dX6_understand_22 : decode cX6_understand 22 = .ok (.iload_n 3, 1) := by decide +kernel
theorem dX6_understand_23 : decode cX6_understand 23 = .ok (.aload_n 1, 1) := by decide +kernel
theorem dX6_understand_24 : decode cX6_understand 24 = .ok (.invokevirtual 38, 3) := by decide +kernel
theorem dX6_understand_27 : decode cX6_understand 27 = .ok (.if_icmp .ge 143, 3) := by decide +kernel
theorem dX6_understand_30 : decode cX6_understand 30 = .ok (.aload_n 0, 1) := by decide +kernel
theorem dX6_understand_31 : decode cX6_understand 31 = .ok (.getfield 31, 3) := by decide +kernel
theorem dX6_understand_34 : decode cX6_understand 34 = .ok (.ifCond .eq 136, 3) := by decide +kernel
theorem dX6_understand_37 : decode cX6_understand 37 = .ok (.aload_n 1, 1) := by decide +kernel
theorem dX6_understand_38 : decode cX6_understand 38 = .ok (.iload_n 3, 1) := by decide +kernel
theorem dX6_understand_39 : decode cX6_understand 39 = .ok (.invokevirtual 44, 3) := by decide +kernel
theorem dX6_understand_42 : decode cX6_understand 42 = .ok (.istore 4, 2) := by decide +kernel
theorem dX6_understand_44 : decode cX6_understand 44 = .ok (.iload 4, 2) := by decide +kernel
theorem dX6_understand_46 : decode cX6_understand 46 = .ok (.bipush 12, 2) := by decide +kernel
theorem dX6_understand_48 : decode cX6_understand 48 = .ok (.if_icmp .lt 13, 3) := by decide +kernel
theorem dX6_understand_51 : decode cX6_understand 51 = .ok (.aload_n 0, 1) := by decide +kernel
theorem dX6_understand_52 : decode cX6_understand 52 = .ok (.iload 4, 2) := by decide +kernel
theorem dX6_understand_54 : decode cX6_understand 54 = .ok (.aload_n 2, 1) := by decide +kernel
theorem dX6_understand_55 : decode cX6_understand 55 = .ok (.invokevirtual 48, 3) := by decide +kernel
theorem dX6_understand_58 : decode cX6_understand 58 = .ok (.goto 106, 3) := by decide +kernel
theorem dX6_understand_61 : decode cX6_understand 61 = .ok (.iload 4, 2) := by decide +kernel
theorem dX6_understand_63 : decode cX6_understand 63 = .ok (.ifCond .eq 17, 3) := by decide +kernel
theorem dX6_understand_66 : decode cX6_understand 66 = .ok (.iload 4, 2) := by decide +kernel
theorem dX6_understand_68 : decode cX6_understand 68 = .ok (.bipush 9, 2) := by decide +kernel
theorem dX6_understand_70 : decode cX6_understand 70 = .ok (.if_icmp .eq 10, 3) := by decide +kernel
theorem dX6_understand_73 : decode cX6_understand 73 = .ok (.iload 4, 2) := by decide +kernel
theorem dX6_understand_75 : decode cX6_understand 75 = .ok (.bipush 8, 2) := by decide +kernel
theorem dX6_understand_77 : decode cX6_understand 77 = .ok (.if_icmp .ne 12, 3) := by decide +kernel
theorem dX6_understand_80 : decode cX6_understand 80 = .ok (.aload_n 0, 1) := by decide +kernel
theorem dX6_understand_81 : decode cX6_understand 81 = .ok (.iload 4, 2) := by decide +kernel
theorem dX6_understand_83 : decode cX6_understand 83 = .ok (.invokevirtual 52, 3) := by decide +kernel
theorem dX6_understand_86 : decode cX6_understand 86 = .ok (.goto 78, 3) := by decide +kernel
theorem dX6_understand_89 : decode cX6_understand 89 = .ok (.iload 4, 2) := by decide +kernel
theorem dX6_understand_91 : decode cX6_understand 91 = .ok (.iconst 1, 1) := by decide +kernel
theorem dX6_understand_92 : decode cX6_understand 92 = .ok (.if_icmp .eq 17, 3) := by decide +kernel
theorem dX6_understand_95 : decode cX6_understand 95 = .ok (.iload 4, 2) := by decide +kernel
theorem dX6_understand_97 : decode cX6_understand 97 = .ok (.bipush 10, 2) := by decide +kernel
theorem dX6_understand_99 : decode cX6_understand 99 = .ok (.if_icmp .eq 10, 3) := by decide +kernel
theorem dX6_understand_102 : decode cX6_understand 102 = .ok (.iload 4, 2) := by decide +kernel
theorem dX6_understand_104 : decode cX6_understand 104 = .ok (.bipush 11, 2) := by decide +kernel
theorem dX6_understand_106 : decode cX6_understand 106 = .ok (.if_icmp .ne 37, 3) := by decide +kernel
theorem dX6_understand_109 : decode cX6_understand 109 = .ok (.aload_n 0, 1) := by decide +kernel
theorem dX6_understand_110 : decode cX6_understand 110 = .ok (.iconst 1, 1) := by decide +kernel
theorem dX6_understand_111 : decode cX6_understand 111 = .ok (.invokevirtual 56, 3) := by decide +kernel
theorem dX6_understand_114 : decode cX6_understand 114 = .ok (.aload_n 0, 1) := by decide +kernel
theorem dX6_understand_115 : decode cX6_understand 115 = .ok (.iconst 0, 1) := by decide +kernel
theorem dX6_understand_116 : decode cX6_understand 116 = .ok (.aload_n 0, 1) := by decide +kernel
theorem dX6_understand_117 : decode cX6_understand 117 = .ok (.getfield 25, 3) := by decide +kernel
theorem dX6_understand_120 : decode cX6_understand 120 = .ok (.iconst 1, 1) := by decide +kernel
theorem dX6_understand_121 : decode cX6_understand 121 = .ok (.isub, 1) := by decide +kernel
theorem dX6_understand_122 : decode cX6_understand 122 = .ok (.invokestatic 59, 3) := by decide +kernel
theorem dX6_understand_125 : decode cX6_understand 125 = .ok (.putfield 25, 3) := by decide +kernel
theorem dX6_understand_128 : decode cX6_understand 128 = .ok (.iload 4, 2) := by decide +kernel
theorem dX6_understand_130 : decode cX6_understand 130 = .ok (.iconst 1, 1) := by decide +kernel
theorem dX6_understand_131 : decode cX6_understand 131 = .ok (.if_icmp .eq 33, 3) := by decide +kernel
theorem dX6_understand_134 : decode cX6_understand 134 = .ok (.aload_n 0, 1) := by decide +kernel
theorem dX6_understand_135 : decode cX6_understand 135 = .ok (.iload 4, 2) := by decide +kernel
theorem dX6_understand_137 : decode cX6_understand 137 = .ok (.invokevirtual 52, 3) := by decide +kernel
theorem dX6_understand_140 : decode cX6_understand 140 = .ok (.goto 24, 3) := by decide +kernel
theorem dX6_understand_143 : decode cX6_understand 143 = .ok (.iload 4, 2) := by decide +kernel
theorem dX6_understand_145 : decode cX6_understand 145 = .ok (.ifCond .lt 19, 3) := by decide +kernel
theorem dX6_understand_148 : decode cX6_understand 148 = .ok (.aload_n 0, 1) := by decide +kernel
theorem dX6_understand_149 : decode cX6_understand 149 = .ok (.getstatic 65, 3) := by decide +kernel
theorem dX6_understand_152 : decode cX6_understand 152 = .ok (.iload 4, 2) := by decide +kernel
theorem dX6_understand_154 : decode cX6_understand 154 = .ok (.iaload, 1) := by decide +kernel
theorem dX6_understand_155 : decode cX6_understand 155 = .ok (.invokevirtual 56, 3) := by decide +kernel
theorem dX6_understand_158 : decode cX6_understand 158 = .ok (.aload_n 0, 1) := by decide +kernel
theorem dX6_understand_159 : decode cX6_understand 159 = .ok (.iload 4, 2) := by decide +kernel
theorem dX6_understand_161 : decode cX6_understand 161 = .ok (.invokevirtual 52, 3) := by decide +kernel
theorem dX6_understand_164 : decode cX6_understand 164 = .ok (.iinc 3 1, 3) := by decide +kernel
theorem dX6_understand_167 : decode cX6_understand 167 = .ok (.goto (-145), 3) := by decide +kernel
theorem dX6_understand_170 : decode cX6_understand 170 = .ok (.aload_n 0, 1) := by decide +kernel
theorem dX6_understand_171 : decode cX6_understand 171 = .ok (.iconst 1, 1) := by decide +kernel
theorem dX6_understand_172 : decode cX6_understand 172 = .ok (.invokevirtual 56, 3) := by decide +kernel
theorem dX6_understand_175 : decode cX6_understand 175 = .ok (.aload_n 0, 1) := by decide +kernel
theorem dX6_understand_176 : decode cX6_understand 176 = .ok (.aload_n 0, 1) := by decide +kernel
theorem dX6_understand_177 : decode cX6_understand 177 = .ok (.getfield 31, 3) := by decide +kernel
theorem dX6_understand_180 : decode cX6_understand 180 = .ok (.ifCond .eq 27, 3) := by decide +kernel
theorem dX6_understand_183 : decode cX6_understand 183 = .ok (.aload_n 0, 1) := by decide +kernel
theorem dX6_understand_184 : decode cX6_understand 184 = .ok (.getfield 28, 3) := by decide +kernel
theorem dX6_understand_187 : decode cX6_understand 187 = .ok (.iconst 1, 1) := by decide +kernel
theorem dX6_understand_188 : decode cX6_understand 188 = .ok (.if_icmp .ne 19, 3) := by decide +kernel
theorem dX6_understand_191 : decode cX6_understand 191 = .ok (.aload_n 0, 1) := by decide +kernel
theorem dX6_understand_192 : decode cX6_understand 192 = .ok (.getfield 25, 3) := by decide +kernel
theorem dX6_understand_195 : decode cX6_understand 195 = .ok (.ifCond .ne 12, 3) := by decide +kernel
theorem dX6_understand_198 : decode cX6_understand 198 = .ok (.aload_n 0, 1) := by decide +kernel
theorem dX6_understand_199 : decode cX6_understand 199 = .ok (.getfield 18, 3) := by decide +kernel
theorem dX6_understand_202 : decode cX6_understand 202 = .ok (.iconst 0, 1) := by decide +kernel
theorem dX6_understand_203 : decode cX6_understand 203 = .ok (.iaload, 1) := by decide +kernel
theorem dX6_understand_204 : decode cX6_understand 204 = .ok (.goto 4, 3) := by decide +kernel
theorem dX6_understand_207 : decode cX6_understand 207 = .ok (.iconst (-1), 1) := by decide +kernel
theorem dX6_understand_208 : decode cX6_understand 208 = .ok (.putfield 35, 3) := by decide +kernel
theorem dX6_understand_211 : decode cX6_understand 211 = .ok (.aload_n 0, 1) := by decide +kernel
theorem dX6_understand_212 : decode cX6_understand 212 = .ok (.getfield 35, 3) := by decide +kernel
theorem dX6_understand_215 : decode cX6_understand 215 = .ok (.ireturn, 1) := by decide +kernel
theorem dX6_await_0 : decode cX6_await 0 = .ok (.aload_n 0, 1) := by decide +kernel
theorem dX6_await_1 : decode cX6_await 1 = .ok (.getfield 25, 3) := by decide +kernel
theorem dX6_await_4 : decode cX6_await 4 = .ok (.bipush 12, 2) := by decide +kernel
theorem dX6_await_6 : decode cX6_await 6 = .ok (.if_icmp .ge 23, 3) := by decide +kernel
theorem dX6_await_9 : decode cX6_await 9 = .ok (.aload_n 0, 1) := by decide +kernel
theorem dX6_await_10 : decode cX6_await 10 = .ok (.getfield 15, 3) := by decide +kernel
theorem dX6_await_13 : decode cX6_await 13 = .ok (.aload_n 0, 1) := by decide +kernel
theorem dX6_await_14 : decode cX6_await 14 = .ok (.getfield 25, 3) := by decide +kernel
theorem dX6_await_17 : decode cX6_await 17 = .ok (.iload_n 1, 1) := by decide +kernel
theorem dX6_await_18 : decode cX6_await 18 = .ok (.iastore, 1) := by decide +kernel
theorem dX6_await_19 : decode cX6_await 19 = .ok (.aload_n 0, 1) := by decide +kernel
theorem dX6_await_20 : decode cX6_await 20 = .ok (.dup, 1) := by decide +kernel
theorem dX6_await_21 : decode cX6_await 21 = .ok (.getfield 25, 3) := by decide +kernel
theorem dX6_await_24 : decode cX6_await 24 = .ok (.iconst 1, 1) := by decide +kernel
theorem dX6_await_25 : decode cX6_await 25 = .ok (.iadd, 1) := by decide +kernel
theorem dX6_await_26 : decode cX6_await 26 = .ok (.putfield 25, 3) := by decide +kernel
theorem dX6_await_29 : decode cX6_await 29 = .ok (.return_, 1) := by decide +kernel
theorem dX6_settle_0 : decode cX6_settle 0 = .ok (.aload_n 0, 1) := by decide +kernel
theorem dX6_settle_1 : decode cX6_settle 1 = .ok (.getfield 25, 3) := by decide +kernel
theorem dX6_settle_4 : decode cX6_settle 4 = .ok (.ifCond .le 48, 3) := by decide +kernel
theorem dX6_settle_7 : decode cX6_settle 7 = .ok (.getstatic 65, 3) := by decide +kernel
theorem dX6_settle_10 : decode cX6_settle 10 = .ok (.aload_n 0, 1) := by decide +kernel
theorem dX6_settle_11 : decode cX6_settle 11 = .ok (.getfield 15, 3) := by decide +kernel
theorem dX6_settle_14 : decode cX6_settle 14 = .ok (.aload_n 0, 1) := by decide +kernel
theorem dX6_settle_15 : decode cX6_settle 15 = .ok (.getfield 25, 3) := by decide +kernel
theorem dX6_settle_18 : decode cX6_settle 18 = .ok (.iconst 1, 1) := by decide +kernel
theorem dX6_settle_19 : decode cX6_settle 19 = .ok (.isub, 1) := by decide +kernel
theorem dX6_settle_20 : decode cX6_settle 20 = .ok (.iaload, 1) := by decide +kernel
theorem dX6_settle_21 : decode cX6_settle 21 = .ok (.iaload, 1) := by decide +kernel
theorem dX6_settle_22 : decode cX6_settle 22 = .ok (.iload_n 1, 1) := by decide +kernel
theorem dX6_settle_23 : decode cX6_settle 23 = .ok (.if_icmp .lt 29, 3) := by decide +kernel
theorem dX6_settle_26 : decode cX6_settle 26 = .ok (.aload_n 0, 1) := by decide +kernel
theorem dX6_settle_27 : decode cX6_settle 27 = .ok (.dup, 1) := by decide +kernel
theorem dX6_settle_28 : decode cX6_settle 28 = .ok (.getfield 25, 3) := by decide +kernel
theorem dX6_settle_31 : decode cX6_settle 31 = .ok (.iconst 1, 1) := by decide +kernel
theorem dX6_settle_32 : decode cX6_settle 32 = .ok (.isub, 1) := by decide +kernel
theorem dX6_settle_33 : decode cX6_settle 33 = .ok (.putfield 25, 3) := by decide +kernel
theorem dX6_settle_36 : decode cX6_settle 36 = .ok (.aload_n 0, 1) := by decide +kernel
theorem dX6_settle_37 : decode cX6_settle 37 = .ok (.aload_n 0, 1) := by decide +kernel
theorem dX6_settle_38 : decode cX6_settle 38 = .ok (.getfield 15, 3) := by decide +kernel
theorem dX6_settle_41 : decode cX6_settle 41 = .ok (.aload_n 0, 1) := by decide +kernel
theorem dX6_settle_42 : decode cX6_settle 42 = .ok (.getfield 25, 3) := by decide +kernel
theorem dX6_settle_45 : decode cX6_settle 45 = .ok (.iaload, 1) := by decide +kernel
theorem dX6_settle_46 : decode cX6_settle 46 = .ok (.invokevirtual 68, 3) := by decide +kernel
theorem dX6_settle_49 : decode cX6_settle 49 = .ok (.goto (-49), 3) := by decide +kernel
theorem dX6_settle_52 : decode cX6_settle 52 = .ok (.return_, 1) := by decide +kernel
theorem dX6_addOperand_0 : decode cX6_addOperand 0 = .ok (.aload_n 0, 1) := by decide +kernel
theorem dX6_addOperand_1 : decode cX6_addOperand 1 = .ok (.getfield 28, 3) := by decide +kernel
theorem dX6_addOperand_4 : decode cX6_addOperand 4 = .ok (.bipush 12, 2) := by decide +kernel
theorem dX6_addOperand_6 : decode cX6_addOperand 6 = .ok (.if_icmp .ge 12, 3) := by decide +kernel
theorem dX6_addOperand_9 : decode cX6_addOperand 9 = .ok (.aload_n 0, 1) := by decide +kernel
theorem dX6_addOperand_10 : decode cX6_addOperand 10 = .ok (.getfield 21, 3) := by decide +kernel
theorem dX6_addOperand_13 : decode cX6_addOperand 13 = .ok (.bipush 12, 2) := by decide +kernel
theorem dX6_addOperand_15 : decode cX6_addOperand 15 = .ok (.if_icmp .lt 9, 3) := by decide +kernel
theorem dX6_addOperand_18 : decode cX6_addOperand 18 = .ok (.aload_n 0, 1) := by decide +kernel
theorem dX6_addOperand_19 : decode cX6_addOperand 19 = .ok (.iconst 0, 1) := by decide +kernel
theorem dX6_addOperand_20 : decode cX6_addOperand 20 = .ok (.putfield 31, 3) := by decide +kernel
theorem dX6_addOperand_23 : decode cX6_addOperand 23 = .ok (.return_, 1) := by decide +kernel
theorem dX6_addOperand_24 : decode cX6_addOperand 24 = .ok (.iload_n 1, 1) := by decide +kernel
theorem dX6_addOperand_25 : decode cX6_addOperand 25 = .ok (.bipush 14, 2) := by decide +kernel
theorem dX6_addOperand_27 : decode cX6_addOperand 27 = .ok (.if_icmp .ge 7, 3) := by decide +kernel
theorem dX6_addOperand_30 : decode cX6_addOperand 30 = .ok (.iconst 1, 1) := by decide +kernel
theorem dX6_addOperand_31 : decode cX6_addOperand 31 = .ok (.goto 4, 3) := by decide +kernel
theorem dX6_addOperand_34 : decode cX6_addOperand 34 = .ok (.iconst 0, 1) := by decide +kernel
theorem dX6_addOperand_35 : decode cX6_addOperand 35 = .ok (.istore_n 3, 1) := by decide +kernel
theorem dX6_addOperand_36 : decode cX6_addOperand 36 = .ok (.iload_n 1, 1) := by decide +kernel
theorem dX6_addOperand_37 : decode cX6_addOperand 37 = .ok (.istore 4, 2) := by decide +kernel
theorem dX6_addOperand_39 : decode cX6_addOperand 39 = .ok (.iload_n 1, 1) := by decide +kernel
theorem dX6_addOperand_40 : decode cX6_addOperand 40 = .ok (.bipush 14, 2) := by decide +kernel
theorem dX6_addOperand_42 : decode cX6_addOperand 42 = .ok (.if_icmp .lt 43, 3) := by decide +kernel
theorem dX6_addOperand_45 : decode cX6_addOperand 45 = .ok (.iload_n 1, 1) := by decide +kernel
theorem dX6_addOperand_46 : decode cX6_addOperand 46 = .ok (.bipush 18, 2) := by decide +kernel
theorem dX6_addOperand_48 : decode cX6_addOperand 48 = .ok (.if_icmp .ge 37, 3) := by decide +kernel
theorem dX6_addOperand_51 : decode cX6_addOperand 51 = .ok (.iload_n 1, 1) := by decide +kernel
theorem dX6_addOperand_52 : decode cX6_addOperand 52 = .ok (.bipush 14, 2) := by decide +kernel
theorem dX6_addOperand_54 : decode cX6_addOperand 54 = .ok (.isub, 1) := by decide +kernel
theorem dX6_addOperand_55 : decode cX6_addOperand 55 = .ok (.aload_n 2, 1) := by decide +kernel
theorem dX6_addOperand_56 : decode cX6_addOperand 56 = .ok (.arraylength, 1) := by decide +kernel
theorem dX6_addOperand_57 : decode cX6_addOperand 57 = .ok (.if_icmp .ge 28, 3) := by decide +kernel
theorem dX6_addOperand_60 : decode cX6_addOperand 60 = .ok (.aload_n 2, 1) := by decide +kernel
theorem dX6_addOperand_61 : decode cX6_addOperand 61 = .ok (.iload_n 1, 1) := by decide +kernel
theorem dX6_addOperand_62 : decode cX6_addOperand 62 = .ok (.bipush 14, 2) := by decide +kernel
theorem dX6_addOperand_64 : decode cX6_addOperand 64 = .ok (.isub, 1) := by decide +kernel
theorem dX6_addOperand_65 : decode cX6_addOperand 65 = .ok (.iaload, 1) := by decide +kernel
theorem dX6_addOperand_66 : decode cX6_addOperand 66 = .ok (.istore_n 3, 1) := by decide +kernel
theorem dX6_addOperand_67 : decode cX6_addOperand 67 = .ok (.iload_n 3, 1) := by decide +kernel
theorem dX6_addOperand_68 : decode cX6_addOperand 68 = .ok (.iconst 1, 1) := by decide +kernel
theorem dX6_addOperand_69 : decode cX6_addOperand 69 = .ok (.if_icmp .ne 13, 3) := by decide +kernel
theorem dX6_addOperand_72 : decode cX6_addOperand 72 = .ok (.iload_n 1, 1) := by decide +kernel
theorem dX6_addOperand_73 : decode cX6_addOperand 73 = .ok (.bipush 14, 2) := by decide +kernel
theorem dX6_addOperand_75 : decode cX6_addOperand 75 = .ok (.isub, 1) := by decide +kernel
theorem dX6_addOperand_76 : decode cX6_addOperand 76 = .ok (.bipush 28, 2) := by decide +kernel
theorem dX6_addOperand_78 : decode cX6_addOperand 78 = .ok (.iadd, 1) := by decide +kernel
theorem dX6_addOperand_79 : decode cX6_addOperand 79 = .ok (.goto 4, 3) := by decide +kernel
theorem dX6_addOperand_82 : decode cX6_addOperand 82 = .ok (.iload_n 1, 1) := by decide +kernel
theorem dX6_addOperand_83 : decode cX6_addOperand 83 = .ok (.istore 4, 2) := by decide +kernel
theorem dX6_addOperand_85 : decode cX6_addOperand 85 = .ok (.aload_n 0, 1) := by decide +kernel
theorem dX6_addOperand_86 : decode cX6_addOperand 86 = .ok (.getfield 9, 3) := by decide +kernel
theorem dX6_addOperand_89 : decode cX6_addOperand 89 = .ok (.aload_n 0, 1) := by decide +kernel
theorem dX6_addOperand_90 : decode cX6_addOperand 90 = .ok (.getfield 21, 3) := by decide +kernel
theorem dX6_addOperand_93 : decode cX6_addOperand 93 = .ok (.iload 4, 2) := by decide +kernel
theorem dX6_addOperand_95 : decode cX6_addOperand 95 = .ok (.iastore, 1) := by decide +kernel
theorem dX6_addOperand_96 : decode cX6_addOperand 96 = .ok (.aload_n 0, 1) := by decide +kernel
theorem dX6_addOperand_97 : decode cX6_addOperand 97 = .ok (.dup, 1) := by decide +kernel
theorem dX6_addOperand_98 : decode cX6_addOperand 98 = .ok (.getfield 21, 3) := by decide +kernel
theorem dX6_addOperand_101 : decode cX6_addOperand 101 = .ok (.iconst 1, 1) := by decide +kernel
theorem dX6_addOperand_102 : decode cX6_addOperand 102 = .ok (.iadd, 1) := by decide +kernel
theorem dX6_addOperand_103 : decode cX6_addOperand 103 = .ok (.putfield 21, 3) := by decide +kernel
theorem dX6_addOperand_106 : decode cX6_addOperand 106 = .ok (.aload_n 0, 1) := by decide +kernel
theorem dX6_addOperand_107 : decode cX6_addOperand 107 = .ok (.getfield 18, 3) := by decide +kernel
theorem dX6_addOperand_110 : decode cX6_addOperand 110 = .ok (.aload_n 0, 1) := by decide +kernel
theorem dX6_addOperand_111 : decode cX6_addOperand 111 = .ok (.getfield 28, 3) := by decide +kernel
theorem dX6_addOperand_114 : decode cX6_addOperand 114 = .ok (.iload_n 3, 1) := by decide +kernel
theorem dX6_addOperand_115 : decode cX6_addOperand 115 = .ok (.iastore, 1) := by decide +kernel
theorem dX6_addOperand_116 : decode cX6_addOperand 116 = .ok (.aload_n 0, 1) := by decide +kernel
theorem dX6_addOperand_117 : decode cX6_addOperand 117 = .ok (.dup, 1) := by decide +kernel
theorem dX6_addOperand_118 : decode cX6_addOperand 118 = .ok (.getfield 28, 3) := by decide +kernel
theorem dX6_addOperand_121 : decode cX6_addOperand 121 = .ok (.iconst 1, 1) := by decide +kernel
theorem dX6_addOperand_122 : decode cX6_addOperand 122 = .ok (.iadd, 1) := by decide +kernel
theorem dX6_addOperand_123 : decode cX6_addOperand 123 = .ok (.putfield 28, 3) := by decide +kernel
theorem dX6_addOperand_126 : decode cX6_addOperand 126 = .ok (.return_, 1) := by decide +kernel
theorem dX6_addOperator_0 : decode cX6_addOperator 0 = .ok (.aload_n 0, 1) := by decide +kernel
theorem dX6_addOperator_1 : decode cX6_addOperator 1 = .ok (.getfield 28, 3) := by decide +kernel
theorem dX6_addOperator_4 : decode cX6_addOperator 4 = .ok (.getstatic 71, 3) := by decide +kernel
theorem dX6_addOperator_7 : decode cX6_addOperator 7 = .ok (.iload_n 1, 1) := by decide +kernel
theorem dX6_addOperator_8 : decode cX6_addOperator 8 = .ok (.iaload, 1) := by decide +kernel
theorem dX6_addOperator_9 : decode cX6_addOperator 9 = .ok (.isub, 1) := by decide +kernel
theorem dX6_addOperator_10 : decode cX6_addOperator 10 = .ok (.istore_n 2, 1) := by decide +kernel
theorem dX6_addOperator_11 : decode cX6_addOperator 11 = .ok (.iload_n 2, 1) := by decide +kernel
theorem dX6_addOperator_12 : decode cX6_addOperator 12 = .ok (.ifCond .lt 12, 3) := by decide +kernel
theorem dX6_addOperator_15 : decode cX6_addOperator 15 = .ok (.aload_n 0, 1) := by decide +kernel
theorem dX6_addOperator_16 : decode cX6_addOperator 16 = .ok (.getfield 21, 3) := by decide +kernel
theorem dX6_addOperator_19 : decode cX6_addOperator 19 = .ok (.bipush 12, 2) := by decide +kernel
theorem dX6_addOperator_21 : decode cX6_addOperator 21 = .ok (.if_icmp .lt 9, 3) := by decide +kernel
theorem dX6_addOperator_24 : decode cX6_addOperator 24 = .ok (.aload_n 0, 1) := by decide +kernel
theorem dX6_addOperator_25 : decode cX6_addOperator 25 = .ok (.iconst 0, 1) := by decide +kernel
theorem dX6_addOperator_26 : decode cX6_addOperator 26 = .ok (.putfield 31, 3) := by decide +kernel
theorem dX6_addOperator_29 : decode cX6_addOperator 29 = .ok (.return_, 1) := by decide +kernel
theorem dX6_addOperator_30 : decode cX6_addOperator 30 = .ok (.aload_n 0, 1) := by decide +kernel
theorem dX6_addOperator_31 : decode cX6_addOperator 31 = .ok (.getfield 18, 3) := by decide +kernel
theorem dX6_addOperator_34 : decode cX6_addOperator 34 = .ok (.iload_n 2, 1) := by decide +kernel
theorem dX6_addOperator_35 : decode cX6_addOperator 35 = .ok (.iaload, 1) := by decide +kernel
theorem dX6_addOperator_36 : decode cX6_addOperator 36 = .ok (.istore_n 3, 1) := by decide +kernel
theorem dX6_addOperator_37 : decode cX6_addOperator 37 = .ok (.aload_n 0, 1) := by decide +kernel
theorem dX6_addOperator_38 : decode cX6_addOperator 38 = .ok (.getfield 18, 3) := by decide +kernel
theorem dX6_addOperator_41 : decode cX6_addOperator 41 = .ok (.aload_n 0, 1) := by decide +kernel
theorem dX6_addOperator_42 : decode cX6_addOperator 42 = .ok (.getfield 28, 3) := by decide +kernel
theorem dX6_addOperator_45 : decode cX6_addOperator 45 = .ok (.iconst 1, 1) := by decide +kernel
theorem dX6_addOperator_46 : decode cX6_addOperator 46 = .ok (.isub, 1) := by decide +kernel
theorem dX6_addOperator_47 : decode cX6_addOperator 47 = .ok (.iaload, 1) := by decide +kernel
theorem dX6_addOperator_48 : decode cX6_addOperator 48 = .ok (.istore 4, 2) := by decide +kernel
theorem dX6_addOperator_50 : decode cX6_addOperator 50 = .ok (.iconst 1, 1) := by decide +kernel
theorem dX6_addOperator_51 : decode cX6_addOperator 51 = .ok (.istore 5, 2) := by decide +kernel
theorem dX6_addOperator_53 : decode cX6_addOperator 53 = .ok (.iload_n 1, 1) := by decide +kernel
theorem dX6_addOperator_54 : decode cX6_addOperator 54 = .ok (.tableswitch 182 2 11 #[54, 54, 54, 85, 113, 182, 182, 182, 182, 138], 54) := by decide +kernel
theorem dX6_addOperator_108 : decode cX6_addOperator 108 = .ok (.iconst 0, 1) := by decide +kernel
theorem dX6_addOperator_109 : decode cX6_addOperator 109 = .ok (.istore 5, 2) := by decide +kernel
theorem dX6_addOperator_111 : decode cX6_addOperator 111 = .ok (.aload_n 0, 1) := by decide +kernel
theorem dX6_addOperator_112 : decode cX6_addOperator 112 = .ok (.aload_n 0, 1) := by decide +kernel
theorem dX6_addOperator_113 : decode cX6_addOperator 113 = .ok (.getfield 31, 3) := by decide +kernel
theorem dX6_addOperator_116 : decode cX6_addOperator 116 = .ok (.ifCond .eq 16, 3) := by decide +kernel
theorem dX6_addOperator_119 : decode cX6_addOperator 119 = .ok (.iload_n 3, 1) := by decide +kernel
theorem dX6_addOperator_120 : decode cX6_addOperator 120 = .ok (.ifCond .ne 12, 3) := by decide +kernel
theorem dX6_addOperator_123 : decode cX6_addOperator 123 = .ok (.iload 4, 2) := by decide +kernel
theorem dX6_addOperator_125 : decode cX6_addOperator 125 = .ok (.ifCond .ne 7, 3) := by decide +kernel
theorem dX6_addOperator_128 : decode cX6_addOperator 128 = .ok (.iconst 1, 1) := by decide +kernel
theorem dX6_addOperator_129 : decode cX6_addOperator 129 = .ok (.goto 4, 3) := by decide +kernel
theorem dX6_addOperator_132 : decode cX6_addOperator 132 = .ok (.iconst 0, 1) := by decide +kernel
theorem dX6_addOperator_133 : decode cX6_addOperator 133 = .ok (.putfield 31, 3) := by decide +kernel
theorem dX6_addOperator_136 : decode cX6_addOperator 136 = .ok (.goto 127, 3) := by decide +kernel
theorem dX6_addOperator_139 : decode cX6_addOperator 139 = .ok (.aload_n 0, 1) := by decide +kernel
theorem dX6_addOperator_140 : decode cX6_addOperator 140 = .ok (.aload_n 0, 1) := by decide +kernel
theorem dX6_addOperator_141 : decode cX6_addOperator 141 = .ok (.getfield 31, 3) := by decide +kernel
theorem dX6_addOperator_144 : decode cX6_addOperator 144 = .ok (.ifCond .eq 16, 3) := by decide +kernel
theorem dX6_addOperator_147 : decode cX6_addOperator 147 = .ok (.iload_n 3, 1) := by decide +kernel
theorem dX6_addOperator_148 : decode cX6_addOperator 148 = .ok (.ifCond .ne 12, 3) := by decide +kernel
theorem dX6_addOperator_151 : decode cX6_addOperator 151 = .ok (.iload 4, 2) := by decide +kernel
theorem dX6_addOperator_153 : decode cX6_addOperator 153 = .ok (.ifCond .ne 7, 3) := by decide +kernel
theorem dX6_addOperator_156 : decode cX6_addOperator 156 = .ok (.iconst 1, 1) := by decide +kernel
theorem dX6_addOperator_157 : decode cX6_addOperator 157 = .ok (.goto 4, 3) := by decide +kernel
theorem dX6_addOperator_160 : decode cX6_addOperator 160 = .ok (.iconst 0, 1) := by decide +kernel
theorem dX6_addOperator_161 : decode cX6_addOperator 161 = .ok (.putfield 31, 3) := by decide +kernel
theorem dX6_addOperator_164 : decode cX6_addOperator 164 = .ok (.goto 99, 3) := by decide +kernel
theorem dX6_addOperator_167 : decode cX6_addOperator 167 = .ok (.aload_n 0, 1) := by decide +kernel
theorem dX6_addOperator_168 : decode cX6_addOperator 168 = .ok (.aload_n 0, 1) := by decide +kernel
theorem dX6_addOperator_169 : decode cX6_addOperator 169 = .ok (.getfield 31, 3) := by decide +kernel
theorem dX6_addOperator_172 : decode cX6_addOperator 172 = .ok (.ifCond .eq 13, 3) := by decide +kernel
theorem dX6_addOperator_175 : decode cX6_addOperator 175 = .ok (.iload_n 3, 1) := by decide +kernel
theorem dX6_addOperator_176 : decode cX6_addOperator 176 = .ok (.iload 4, 2) := by decide +kernel
theorem dX6_addOperator_178 : decode cX6_addOperator 178 = .ok (.if_icmp .ne 7, 3) := by decide +kernel
theorem dX6_addOperator_181 : decode cX6_addOperator 181 = .ok (.iconst 1, 1) := by decide +kernel
theorem dX6_addOperator_182 : decode cX6_addOperator 182 = .ok (.goto 4, 3) := by decide +kernel
theorem dX6_addOperator_185 : decode cX6_addOperator 185 = .ok (.iconst 0, 1) := by decide +kernel
theorem dX6_addOperator_186 : decode cX6_addOperator 186 = .ok (.putfield 31, 3) := by decide +kernel
theorem dX6_addOperator_189 : decode cX6_addOperator 189 = .ok (.goto 74, 3) := by decide +kernel
theorem dX6_addOperator_192 : decode cX6_addOperator 192 = .ok (.iload 4, 2) := by decide +kernel
theorem dX6_addOperator_194 : decode cX6_addOperator 194 = .ok (.istore 5, 2) := by decide +kernel
theorem dX6_addOperator_196 : decode cX6_addOperator 196 = .ok (.aload_n 0, 1) := by decide +kernel
theorem dX6_addOperator_197 : decode cX6_addOperator 197 = .ok (.aload_n 0, 1) := by decide +kernel
theorem dX6_addOperator_198 : decode cX6_addOperator 198 = .ok (.getfield 31, 3) := by decide +kernel
theorem dX6_addOperator_201 : decode cX6_addOperator 201 = .ok (.ifCond .eq 28, 3) := by decide +kernel
theorem dX6_addOperator_204 : decode cX6_addOperator 204 = .ok (.iload_n 3, 1) := by decide +kernel
theorem dX6_addOperator_205 : decode cX6_addOperator 205 = .ok (.iconst 1, 1) := by decide +kernel
theorem dX6_addOperator_206 : decode cX6_addOperator 206 = .ok (.if_icmp .ne 23, 3) := by decide +kernel
theorem dX6_addOperator_209 : decode cX6_addOperator 209 = .ok (.aload_n 0, 1) := by decide +kernel
theorem dX6_addOperator_210 : decode cX6_addOperator 210 = .ok (.getfield 18, 3) := by decide +kernel
theorem dX6_addOperator_213 : decode cX6_addOperator 213 = .ok (.aload_n 0, 1) := by decide +kernel
theorem dX6_addOperator_214 : decode cX6_addOperator 214 = .ok (.getfield 28, 3) := by decide +kernel
theorem dX6_addOperator_217 : decode cX6_addOperator 217 = .ok (.iconst 2, 1) := by decide +kernel
theorem dX6_addOperator_218 : decode cX6_addOperator 218 = .ok (.isub, 1) := by decide +kernel
theorem dX6_addOperator_219 : decode cX6_addOperator 219 = .ok (.iaload, 1) := by decide +kernel
theorem dX6_addOperator_220 : decode cX6_addOperator 220 = .ok (.iload 4, 2) := by decide +kernel
theorem dX6_addOperator_222 : decode cX6_addOperator 222 = .ok (.if_icmp .ne 7, 3) := by decide +kernel
theorem dX6_addOperator_225 : decode cX6_addOperator 225 = .ok (.iconst 1, 1) := by decide +kernel
theorem dX6_addOperator_226 : decode cX6_addOperator 226 = .ok (.goto 4, 3) := by decide +kernel
theorem dX6_addOperator_229 : decode cX6_addOperator 229 = .ok (.iconst 0, 1) := by decide +kernel
theorem dX6_addOperator_230 : decode cX6_addOperator 230 = .ok (.putfield 31, 3) := by decide +kernel
theorem dX6_addOperator_233 : decode cX6_addOperator 233 = .ok (.goto 30, 3) := by decide +kernel
theorem dX6_addOperator_236 : decode cX6_addOperator 236 = .ok (.aload_n 0, 1) := by decide +kernel
theorem dX6_addOperator_237 : decode cX6_addOperator 237 = .ok (.aload_n 0, 1) := by decide +kernel
theorem dX6_addOperator_238 : decode cX6_addOperator 238 = .ok (.getfield 31, 3) := by decide +kernel
theorem dX6_addOperator_241 : decode cX6_addOperator 241 = .ok (.ifCond .eq 18, 3) := by decide +kernel
theorem dX6_addOperator_244 : decode cX6_addOperator 244 = .ok (.iload_n 3, 1) := by decide +kernel
theorem dX6_addOperator_245 : decode cX6_addOperator 245 = .ok (.iconst 1, 1) := by decide +kernel
theorem dX6_addOperator_246 : decode cX6_addOperator 246 = .ok (.if_icmp .ne 13, 3) := by decide +kernel
theorem dX6_addOperator_249 : decode cX6_addOperator 249 = .ok (.iload 4, 2) := by decide +kernel
theorem dX6_addOperator_251 : decode cX6_addOperator 251 = .ok (.iconst 1, 1) := by decide +kernel
theorem dX6_addOperator_252 : decode cX6_addOperator 252 = .ok (.if_icmp .ne 7, 3) := by decide +kernel
theorem dX6_addOperator_255 : decode cX6_addOperator 255 = .ok (.iconst 1, 1) := by decide +kernel
theorem dX6_addOperator_256 : decode cX6_addOperator 256 = .ok (.goto 4, 3) := by decide +kernel
theorem dX6_addOperator_259 : decode cX6_addOperator 259 = .ok (.iconst 0, 1) := by decide +kernel
theorem dX6_addOperator_260 : decode cX6_addOperator 260 = .ok (.putfield 31, 3) := by decide +kernel
theorem dX6_addOperator_263 : decode cX6_addOperator 263 = .ok (.aload_n 0, 1) := by decide +kernel
theorem dX6_addOperator_264 : decode cX6_addOperator 264 = .ok (.getfield 9, 3) := by decide +kernel
theorem dX6_addOperator_267 : decode cX6_addOperator 267 = .ok (.aload_n 0, 1) := by decide +kernel
theorem dX6_addOperator_268 : decode cX6_addOperator 268 = .ok (.getfield 21, 3) := by decide +kernel
theorem dX6_addOperator_271 : decode cX6_addOperator 271 = .ok (.iload_n 1, 1) := by decide +kernel
theorem dX6_addOperator_272 : decode cX6_addOperator 272 = .ok (.iastore, 1) := by decide +kernel
theorem dX6_addOperator_273 : decode cX6_addOperator 273 = .ok (.aload_n 0, 1) := by decide +kernel
theorem dX6_addOperator_274 : decode cX6_addOperator 274 = .ok (.dup, 1) := by decide +kernel
theorem dX6_addOperator_275 : decode cX6_addOperator 275 = .ok (.getfield 21, 3) := by decide +kernel
theorem dX6_addOperator_278 : decode cX6_addOperator 278 = .ok (.iconst 1, 1) := by decide +kernel
theorem dX6_addOperator_279 : decode cX6_addOperator 279 = .ok (.iadd, 1) := by decide +kernel
theorem dX6_addOperator_280 : decode cX6_addOperator 280 = .ok (.putfield 21, 3) := by decide +kernel
theorem dX6_addOperator_283 : decode cX6_addOperator 283 = .ok (.aload_n 0, 1) := by decide +kernel
theorem dX6_addOperator_284 : decode cX6_addOperator 284 = .ok (.getfield 18, 3) := by decide +kernel
theorem dX6_addOperator_287 : decode cX6_addOperator 287 = .ok (.iload_n 2, 1) := by decide +kernel
theorem dX6_addOperator_288 : decode cX6_addOperator 288 = .ok (.iload 5, 2) := by decide +kernel
theorem dX6_addOperator_290 : decode cX6_addOperator 290 = .ok (.iastore, 1) := by decide +kernel
theorem dX6_addOperator_291 : decode cX6_addOperator 291 = .ok (.aload_n 0, 1) := by decide +kernel
theorem dX6_addOperator_292 : decode cX6_addOperator 292 = .ok (.iload_n 2, 1) := by decide +kernel
theorem dX6_addOperator_293 : decode cX6_addOperator 293 = .ok (.iconst 1, 1) := by decide +kernel
theorem dX6_addOperator_294 : decode cX6_addOperator 294 = .ok (.iadd, 1) := by decide +kernel
theorem dX6_addOperator_295 : decode cX6_addOperator 295 = .ok (.putfield 28, 3) := by decide +kernel
theorem dX6_addOperator_298 : decode cX6_addOperator 298 = .ok (.return_, 1) := by decide +kernel
theorem dX6_work_0 : decode cX6_work 0 = .ok (.aload_n 0, 1) := by decide +kernel
theorem dX6_work_1 : decode cX6_work 1 = .ok (.getfield 35, 3) := by decide +kernel
theorem dX6_work_4 : decode cX6_work 4 = .ok (.iconst (-1), 1) := by decide +kernel
theorem dX6_work_5 : decode cX6_work 5 = .ok (.if_icmp .eq 15, 3) := by decide +kernel
theorem dX6_work_8 : decode cX6_work 8 = .ok (.iload_n 2, 1) := by decide +kernel
theorem dX6_work_9 : decode cX6_work 9 = .ok (.ifCond .lt 11, 3) := by decide +kernel
theorem dX6_work_12 : decode cX6_work 12 = .ok (.iload_n 2, 1) := by decide +kernel
theorem dX6_work_13 : decode cX6_work 13 = .ok (.aload_n 1, 1) := by decide +kernel
theorem dX6_work_14 : decode cX6_work 14 = .ok (.arraylength, 1) := by decide +kernel
theorem dX6_work_15 : decode cX6_work 15 = .ok (.iconst 4, 1) := by decide +kernel
theorem dX6_work_16 : decode cX6_work 16 = .ok (.isub, 1) := by decide +kernel
theorem dX6_work_17 : decode cX6_work 17 = .ok (.if_icmp .le 6, 3) := by decide +kernel
theorem dX6_work_20 : decode cX6_work 20 = .ok (.ldc 74, 2) := by decide +kernel
theorem dX6_work_22 : decode cX6_work 22 = .ok (.ireturn, 1) := by decide +kernel
theorem dX6_work_23 : decode cX6_work 23 = .ok (.aload_n 0, 1) := by decide +kernel
theorem dX6_work_24 : decode cX6_work 24 = .ok (.iconst 0, 1) := by decide +kernel
theorem dX6_work_25 : decode cX6_work 25 = .ok (.putfield 28, 3) := by decide +kernel
theorem dX6_work_28 : decode cX6_work 28 = .ok (.iconst 0, 1) := by decide +kernel
theorem dX6_work_29 : decode cX6_work 29 = .ok (.istore_n 3, 1) := by decide +kernel
theorem dX6_work_30 : decode cX6_work 30 = .ok (.iload_n 3, 1) := by decide +kernel
theorem dX6_work_31 : decode cX6_work 31 = .ok (.aload_n 0, 1) := by decide +kernel
theorem dX6_work_32 : decode cX6_work 32 = .ok (.getfield 21, 3) := by decide +kernel
theorem dX6_work_35 : decode cX6_work 35 = .ok (.if_icmp .ge 116, 3) := by decide +kernel
theorem dX6_work_38 : decode cX6_work 38 = .ok (.aload_n 0, 1) := by decide +kernel
theorem dX6_work_39 : decode cX6_work 39 = .ok (.getfield 9, 3) := by decide +kernel
theorem dX6_work_42 : decode cX6_work 42 = .ok (.iload_n 3, 1) := by decide +kernel
theorem dX6_work_43 : decode cX6_work 43 = .ok (.iaload, 1) := by decide +kernel
theorem dX6_work_44 : decode cX6_work 44 = .ok (.istore 4, 2) := by decide +kernel
theorem dX6_work_46 : decode cX6_work 46 = .ok (.iload 4, 2) := by decide +kernel
theorem dX6_work_48 : decode cX6_work 48 = .ok (.bipush 12, 2) := by decide +kernel
theorem dX6_work_50 : decode cX6_work 50 = .ok (.if_icmp .lt 10, 3) := by decide +kernel
theorem dX6_work_53 : decode cX6_work 53 = .ok (.aload_n 0, 1) := by decide +kernel
theorem dX6_work_54 : decode cX6_work 54 = .ok (.getfield 28, 3) := by decide +kernel
theorem dX6_work_57 : decode cX6_work 57 = .ok (.goto 14, 3) := by decide +kernel
theorem dX6_work_60 : decode cX6_work 60 = .ok (.aload_n 0, 1) := by decide +kernel
theorem dX6_work_61 : decode cX6_work 61 = .ok (.getfield 28, 3) := by decide +kernel
theorem dX6_work_64 : decode cX6_work 64 = .ok (.getstatic 71, 3) := by decide +kernel
theorem dX6_work_67 : decode cX6_work 67 = .ok (.iload 4, 2) := by decide +kernel
theorem dX6_work_69 : decode cX6_work 69 = .ok (.iaload, 1) := by decide +kernel
theorem dX6_work_70 : decode cX6_work 70 = .ok (.isub, 1) := by decide +kernel
theorem dX6_work_71 : decode cX6_work 71 = .ok (.istore 5, 2) := by decide +kernel
theorem dX6_work_73 : decode cX6_work 73 = .ok (.iload 5, 2) := by decide +kernel
theorem dX6_work_75 : decode cX6_work 75 = .ok (.ifCond .lt 10, 3) := by decide +kernel
theorem dX6_work_78 : decode cX6_work 78 = .ok (.iload 5, 2) := by decide +kernel
theorem dX6_work_80 : decode cX6_work 80 = .ok (.bipush 12, 2) := by decide +kernel
theorem dX6_work_82 : decode cX6_work 82 = .ok (.if_icmp .lt 6, 3) := by decide +kernel
theorem dX6_work_85 : decode cX6_work 85 = .ok (.ldc 74, 2) := by decide +kernel
theorem dX6_work_87 : decode cX6_work 87 = .ok (.ireturn, 1) := by decide +kernel
theorem dX6_work_88 : decode cX6_work 88 = .ok (.iload 4, 2) := by decide +kernel
theorem dX6_work_90 : decode cX6_work 90 = .ok (.bipush 12, 2) := by decide +kernel
theorem dX6_work_92 : decode cX6_work 92 = .ok (.if_icmp .lt 14, 3) := by decide +kernel
theorem dX6_work_95 : decode cX6_work 95 = .ok (.iload 4, 2) := by decide +kernel
theorem dX6_work_97 : decode cX6_work 97 = .ok (.aload_n 1, 1) := by decide +kernel
theorem dX6_work_98 : decode cX6_work 98 = .ok (.iload_n 2, 1) := by decide +kernel
theorem dX6_work_99 : decode cX6_work 99 = .ok (.invokestatic 75, 3) := by decide +kernel
theorem dX6_work_102 : decode cX6_work 102 = .ok (.i2l, 1) := by decide +kernel
theorem dX6_work_103 : decode cX6_work 103 = .ok (.goto 11, 3) := by decide +kernel
theorem dX6_work_106 : decode cX6_work 106 = .ok (.aload_n 0, 1) := by decide +kernel
theorem dX6_work_107 : decode cX6_work 107 = .ok (.iload 4, 2) := by decide +kernel
theorem dX6_work_109 : decode cX6_work 109 = .ok (.iload 5, 2) := by decide +kernel
theorem dX6_work_111 : decode cX6_work 111 = .ok (.invokevirtual 79, 3) := by decide +kernel
theorem dX6_work_114 : decode cX6_work 114 = .ok (.lstore 6, 2) := by decide +kernel
theorem dX6_work_116 : decode cX6_work 116 = .ok (.lload 6, 2) := by decide +kernel
theorem dX6_work_118 : decode cX6_work 118 = .ok (.invokestatic 83, 3) := by decide +kernel
theorem dX6_work_121 : decode cX6_work 121 = .ok (.ifCond .eq 6, 3) := by decide +kernel
theorem dX6_work_124 : decode cX6_work 124 = .ok (.ldc 74, 2) := by decide +kernel
theorem dX6_work_126 : decode cX6_work 126 = .ok (.ireturn, 1) := by decide +kernel
theorem dX6_work_127 : decode cX6_work 127 = .ok (.aload_n 0, 1) := by decide +kernel
theorem dX6_work_128 : decode cX6_work 128 = .ok (.getfield 18, 3) := by decide +kernel
theorem dX6_work_131 : decode cX6_work 131 = .ok (.iload 5, 2) := by decide +kernel
theorem dX6_work_133 : decode cX6_work 133 = .ok (.lload 6, 2) := by decide +kernel
theorem dX6_work_135 : decode cX6_work 135 = .ok (.l2i, 1) := by decide +kernel
theorem dX6_work_136 : decode cX6_work 136 = .ok (.iastore, 1) := by decide +kernel
theorem dX6_work_137 : decode cX6_work 137 = .ok (.aload_n 0, 1) := by decide +kernel
theorem dX6_work_138 : decode cX6_work 138 = .ok (.iload 5, 2) := by decide +kernel
theorem dX6_work_140 : decode cX6_work 140 = .ok (.iconst 1, 1) := by decide +kernel
theorem dX6_work_141 : decode cX6_work 141 = .ok (.iadd, 1) := by decide +kernel
theorem dX6_work_142 : decode cX6_work 142 = .ok (.putfield 28, 3) := by decide +kernel
theorem dX6_work_145 : decode cX6_work 145 = .ok (.iinc 3 1, 3) := by decide +kernel
theorem dX6_work_148 : decode cX6_work 148 = .ok (.goto (-118), 3) := by decide +kernel
theorem dX6_work_151 : decode cX6_work 151 = .ok (.aload_n 0, 1) := by decide +kernel
theorem dX6_work_152 : decode cX6_work 152 = .ok (.getfield 28, 3) := by decide +kernel
theorem dX6_work_155 : decode cX6_work 155 = .ok (.iconst 1, 1) := by decide +kernel
theorem dX6_work_156 : decode cX6_work 156 = .ok (.if_icmp .ne 12, 3) := by decide +kernel
theorem dX6_work_159 : decode cX6_work 159 = .ok (.aload_n 0, 1) := by decide +kernel
theorem dX6_work_160 : decode cX6_work 160 = .ok (.getfield 18, 3) := by decide +kernel
theorem dX6_work_163 : decode cX6_work 163 = .ok (.iconst 0, 1) := by decide +kernel
theorem dX6_work_164 : decode cX6_work 164 = .ok (.iaload, 1) := by decide +kernel
theorem dX6_work_165 : decode cX6_work 165 = .ok (.goto 5, 3) := by decide +kernel
theorem dX6_work_168 : decode cX6_work 168 = .ok (.ldc 74, 2) := by decide +kernel
theorem dX6_work_170 : decode cX6_work 170 = .ok (.ireturn, 1) := by decide +kernel
theorem dX6_operand_0 : decode cX6_operand 0 = .ok (.iload_n 0, 1) := by decide +kernel
theorem dX6_operand_1 : decode cX6_operand 1 = .ok (.bipush 28, 2) := by decide +kernel
theorem dX6_operand_3 : decode cX6_operand 3 = .ok (.if_icmp .lt 20, 3) := by decide +kernel
theorem dX6_operand_6 : decode cX6_operand 6 = .ok (.aload_n 1, 1) := by decide +kernel
theorem dX6_operand_7 : decode cX6_operand 7 = .ok (.iload_n 2, 1) := by decide +kernel
theorem dX6_operand_8 : decode cX6_operand 8 = .ok (.iload_n 0, 1) := by decide +kernel
theorem dX6_operand_9 : decode cX6_operand 9 = .ok (.iadd, 1) := by decide +kernel
theorem dX6_operand_10 : decode cX6_operand 10 = .ok (.bipush 28, 2) := by decide +kernel
theorem dX6_operand_12 : decode cX6_operand 12 = .ok (.isub, 1) := by decide +kernel
theorem dX6_operand_13 : decode cX6_operand 13 = .ok (.iaload, 1) := by decide +kernel
theorem dX6_operand_14 : decode cX6_operand 14 = .ok (.ifCond .eq 7, 3) := by decide +kernel
theorem dX6_operand_17 : decode cX6_operand 17 = .ok (.iconst 1, 1) := by decide +kernel
theorem dX6_operand_18 : decode cX6_operand 18 = .ok (.goto 4, 3) := by decide +kernel
theorem dX6_operand_21 : decode cX6_operand 21 = .ok (.iconst 0, 1) := by decide +kernel
theorem dX6_operand_22 : decode cX6_operand 22 = .ok (.ireturn, 1) := by decide +kernel
theorem dX6_operand_23 : decode cX6_operand 23 = .ok (.iload_n 0, 1) := by decide +kernel
theorem dX6_operand_24 : decode cX6_operand 24 = .ok (.bipush 18, 2) := by decide +kernel
theorem dX6_operand_26 : decode cX6_operand 26 = .ok (.if_icmp .lt 8, 3) := by decide +kernel
theorem dX6_operand_29 : decode cX6_operand 29 = .ok (.iload_n 0, 1) := by decide +kernel
theorem dX6_operand_30 : decode cX6_operand 30 = .ok (.bipush 18, 2) := by decide +kernel
theorem dX6_operand_32 : decode cX6_operand 32 = .ok (.isub, 1) := by decide +kernel
theorem dX6_operand_33 : decode cX6_operand 33 = .ok (.ireturn, 1) := by decide +kernel
theorem dX6_operand_34 : decode cX6_operand 34 = .ok (.iload_n 0, 1) := by decide +kernel
theorem dX6_operand_35 : decode cX6_operand 35 = .ok (.bipush 14, 2) := by decide +kernel
theorem dX6_operand_37 : decode cX6_operand 37 = .ok (.if_icmp .lt 12, 3) := by decide +kernel
theorem dX6_operand_40 : decode cX6_operand 40 = .ok (.aload_n 1, 1) := by decide +kernel
theorem dX6_operand_41 : decode cX6_operand 41 = .ok (.iload_n 2, 1) := by decide +kernel
theorem dX6_operand_42 : decode cX6_operand 42 = .ok (.iload_n 0, 1) := by decide +kernel
theorem dX6_operand_43 : decode cX6_operand 43 = .ok (.iadd, 1) := by decide +kernel
theorem dX6_operand_44 : decode cX6_operand 44 = .ok (.bipush 14, 2) := by decide +kernel
theorem dX6_operand_46 : decode cX6_operand 46 = .ok (.isub, 1) := by decide +kernel
theorem dX6_operand_47 : decode cX6_operand 47 = .ok (.iaload, 1) := by decide +kernel
theorem dX6_operand_48 : decode cX6_operand 48 = .ok (.ireturn, 1) := by decide +kernel
theorem dX6_operand_49 : decode cX6_operand 49 = .ok (.iload_n 0, 1) := by decide +kernel
theorem dX6_operand_50 : decode cX6_operand 50 = .ok (.bipush 12, 2) := by decide +kernel
theorem dX6_operand_52 : decode cX6_operand 52 = .ok (.if_icmp .ne 7, 3) := by decide +kernel
theorem dX6_operand_55 : decode cX6_operand 55 = .ok (.iconst 1, 1) := by decide +kernel
theorem dX6_operand_56 : decode cX6_operand 56 = .ok (.goto 4, 3) := by decide +kernel
theorem dX6_operand_59 : decode cX6_operand 59 = .ok (.iconst 0, 1) := by decide +kernel
theorem dX6_operand_60 : decode cX6_operand 60 = .ok (.ireturn, 1) := by decide +kernel
theorem dX6_combine_0 : decode cX6_combine 0 = .ok (.aload_n 0, 1) := by decide +kernel
theorem dX6_combine_1 : decode cX6_combine 1 = .ok (.getfield 18, 3) := by decide +kernel
theorem dX6_combine_4 : decode cX6_combine 4 = .ok (.iload_n 2, 1) := by decide +kernel
theorem dX6_combine_5 : decode cX6_combine 5 = .ok (.iaload, 1) := by decide +kernel
theorem dX6_combine_6 : decode cX6_combine 6 = .ok (.istore_n 3, 1) := by decide +kernel
theorem dX6_combine_7 : decode cX6_combine 7 = .ok (.aload_n 0, 1) := by decide +kernel
theorem dX6_combine_8 : decode cX6_combine 8 = .ok (.getfield 18, 3) := by decide +kernel
theorem dX6_combine_11 : decode cX6_combine 11 = .ok (.aload_n 0, 1) := by decide +kernel
theorem dX6_combine_12 : decode cX6_combine 12 = .ok (.getfield 28, 3) := by decide +kernel
theorem dX6_combine_15 : decode cX6_combine 15 = .ok (.iconst 1, 1) := by decide +kernel
theorem dX6_combine_16 : decode cX6_combine 16 = .ok (.isub, 1) := by decide +kernel
theorem dX6_combine_17 : decode cX6_combine 17 = .ok (.iaload, 1) := by decide +kernel
theorem dX6_combine_18 : decode cX6_combine 18 = .ok (.istore 4, 2) := by decide +kernel
theorem dX6_combine_20 : decode cX6_combine 20 = .ok (.iload_n 1, 1) := by decide +kernel
theorem dX6_combine_21 : decode cX6_combine 21 = .ok (.tableswitch 97 2 8 #[43, 49, 55, 62, 74, 86, 92], 43) := by decide +kernel
theorem dX6_combine_64 : decode cX6_combine 64 = .ok (.iload_n 3, 1) := by decide +kernel
theorem dX6_combine_65 : decode cX6_combine 65 = .ok (.iload 4, 2) := by decide +kernel
theorem dX6_combine_67 : decode cX6_combine 67 = .ok (.iadd, 1) := by decide +kernel
theorem dX6_combine_68 : decode cX6_combine 68 = .ok (.i2l, 1) := by decide +kernel
theorem dX6_combine_69 : decode cX6_combine 69 = .ok (.lreturn, 1) := by decide +kernel
theorem dX6_combine_70 : decode cX6_combine 70 = .ok (.iload_n 3, 1) := by decide +kernel
theorem dX6_combine_71 : decode cX6_combine 71 = .ok (.iload 4, 2) := by decide +kernel
theorem dX6_combine_73 : decode cX6_combine 73 = .ok (.isub, 1) := by decide +kernel
theorem dX6_combine_74 : decode cX6_combine 74 = .ok (.i2l, 1) := by decide +kernel
theorem dX6_combine_75 : decode cX6_combine 75 = .ok (.lreturn, 1) := by decide +kernel
theorem dX6_combine_76 : decode cX6_combine 76 = .ok (.iload_n 3, 1) := by decide +kernel
theorem dX6_combine_77 : decode cX6_combine 77 = .ok (.i2l, 1) := by decide +kernel
theorem dX6_combine_78 : decode cX6_combine 78 = .ok (.iload 4, 2) := by decide +kernel
theorem dX6_combine_80 : decode cX6_combine 80 = .ok (.i2l, 1) := by decide +kernel
theorem dX6_combine_81 : decode cX6_combine 81 = .ok (.lmul, 1) := by decide +kernel
theorem dX6_combine_82 : decode cX6_combine 82 = .ok (.lreturn, 1) := by decide +kernel
theorem dX6_combine_83 : decode cX6_combine 83 = .ok (.iload_n 3, 1) := by decide +kernel
theorem dX6_combine_84 : decode cX6_combine 84 = .ok (.iload 4, 2) := by decide +kernel
theorem dX6_combine_86 : decode cX6_combine 86 = .ok (.if_icmp .ge 7, 3) := by decide +kernel
theorem dX6_combine_89 : decode cX6_combine 89 = .ok (.lconst 1, 1) := by decide +kernel
theorem dX6_combine_90 : decode cX6_combine 90 = .ok (.goto 4, 3) := by decide +kernel
theorem dX6_combine_93 : decode cX6_combine 93 = .ok (.lconst 0, 1) := by decide +kernel
theorem dX6_combine_94 : decode cX6_combine 94 = .ok (.lreturn, 1) := by decide +kernel
theorem dX6_combine_95 : decode cX6_combine 95 = .ok (.iload_n 3, 1) := by decide +kernel
theorem dX6_combine_96 : decode cX6_combine 96 = .ok (.iload 4, 2) := by decide +kernel
theorem dX6_combine_98 : decode cX6_combine 98 = .ok (.if_icmp .ne 7, 3) := by decide +kernel
theorem dX6_combine_101 : decode cX6_combine 101 = .ok (.lconst 1, 1) := by decide +kernel
theorem dX6_combine_102 : decode cX6_combine 102 = .ok (.goto 4, 3) := by decide +kernel
theorem dX6_combine_105 : decode cX6_combine 105 = .ok (.lconst 0, 1) := by decide +kernel
theorem dX6_combine_106 : decode cX6_combine 106 = .ok (.lreturn, 1) := by decide +kernel
theorem dX6_combine_107 : decode cX6_combine 107 = .ok (.iload_n 3, 1) := by decide +kernel
theorem dX6_combine_108 : decode cX6_combine 108 = .ok (.iload 4, 2) := by decide +kernel
theorem dX6_combine_110 : decode cX6_combine 110 = .ok (.iand, 1) := by decide +kernel
theorem dX6_combine_111 : decode cX6_combine 111 = .ok (.i2l, 1) := by decide +kernel
theorem dX6_combine_112 : decode cX6_combine 112 = .ok (.lreturn, 1) := by decide +kernel
theorem dX6_combine_113 : decode cX6_combine 113 = .ok (.iconst 1, 1) := by decide +kernel
theorem dX6_combine_114 : decode cX6_combine 114 = .ok (.iload_n 3, 1) := by decide +kernel
theorem dX6_combine_115 : decode cX6_combine 115 = .ok (.isub, 1) := by decide +kernel
theorem dX6_combine_116 : decode cX6_combine 116 = .ok (.i2l, 1) := by decide +kernel
theorem dX6_combine_117 : decode cX6_combine 117 = .ok (.lreturn, 1) := by decide +kernel
theorem dX6_combine_118 : decode cX6_combine 118 = .ok (.iload_n 3, 1) := by decide +kernel
theorem dX6_combine_119 : decode cX6_combine 119 = .ok (.ifCond .eq 18, 3) := by decide +kernel
theorem dX6_combine_122 : decode cX6_combine 122 = .ok (.aload_n 0, 1) := by decide +kernel
theorem dX6_combine_123 : decode cX6_combine 123 = .ok (.getfield 18, 3) := by decide +kernel
theorem dX6_combine_126 : decode cX6_combine 126 = .ok (.aload_n 0, 1) := by decide +kernel
theorem dX6_combine_127 : decode cX6_combine 127 = .ok (.getfield 28, 3) := by decide +kernel
theorem dX6_combine_130 : decode cX6_combine 130 = .ok (.iconst 2, 1) := by decide +kernel
theorem dX6_combine_131 : decode cX6_combine 131 = .ok (.isub, 1) := by decide +kernel
theorem dX6_combine_132 : decode cX6_combine 132 = .ok (.iaload, 1) := by decide +kernel
theorem dX6_combine_133 : decode cX6_combine 133 = .ok (.i2l, 1) := by decide +kernel
theorem dX6_combine_134 : decode cX6_combine 134 = .ok (.goto 6, 3) := by decide +kernel
theorem dX6_combine_137 : decode cX6_combine 137 = .ok (.iload 4, 2) := by decide +kernel
theorem dX6_combine_139 : decode cX6_combine 139 = .ok (.i2l, 1) := by decide +kernel
theorem dX6_combine_140 : decode cX6_combine 140 = .ok (.lreturn, 1) := by decide +kernel
theorem dX7_init_0 : decode cX7_init 0 = .ok (.aload_n 0, 1) := by decide +kernel
theorem dX7_init_1 : decode cX7_init 1 = .ok (.invokespecial 3, 3) := by decide +kernel
theorem dX7_init_4 : decode cX7_init 4 = .ok (.aload_n 0, 1) := by decide +kernel
theorem dX7_init_5 : decode cX7_init 5 = .ok (.bipush 40, 2) := by decide +kernel
theorem dX7_init_7 : decode cX7_init 7 = .ok (.newarray .int, 2) := by decide +kernel
theorem dX7_init_9 : decode cX7_init 9 = .ok (.putfield 11, 3) := by decide +kernel
theorem dX7_init_12 : decode cX7_init 12 = .ok (.aload_n 0, 1) := by decide +kernel
theorem dX7_init_13 : decode cX7_init 13 = .ok (.iconst 0, 1) := by decide +kernel
theorem dX7_init_14 : decode cX7_init 14 = .ok (.putfield 15, 3) := by decide +kernel
theorem dX7_init_17 : decode cX7_init 17 = .ok (.return_, 1) := by decide +kernel
theorem dX7_size_0 : decode cX7_size 0 = .ok (.aload_n 0, 1) := by decide +kernel
theorem dX7_size_1 : decode cX7_size 1 = .ok (.getfield 15, 3) := by decide +kernel
theorem dX7_size_4 : decode cX7_size 4 = .ok (.ireturn, 1) := by decide +kernel
theorem dX7_add_0 : decode cX7_add 0 = .ok (.aload_n 0, 1) := by decide +kernel
theorem dX7_add_1 : decode cX7_add 1 = .ok (.getfield 15, 3) := by decide +kernel
theorem dX7_add_4 : decode cX7_add 4 = .ok (.bipush 8, 2) := by decide +kernel
theorem dX7_add_6 : decode cX7_add 6 = .ok (.if_icmp .ge 62, 3) := by decide +kernel
theorem dX7_add_9 : decode cX7_add 9 = .ok (.aload_n 1, 1) := by decide +kernel
theorem dX7_add_10 : decode cX7_add 10 = .ok (.arraylength, 1) := by decide +kernel
theorem dX7_add_11 : decode cX7_add 11 = .ok (.iconst 4, 1) := by decide +kernel
theorem dX7_add_12 : decode cX7_add 12 = .ok (.if_icmp .lt 56, 3) := by decide +kernel
theorem dX7_add_15 : decode cX7_add 15 = .ok (.iconst 0, 1) := by decide +kernel
theorem dX7_add_16 : decode cX7_add 16 = .ok (.istore_n 3, 1) := by decide +kernel
theorem dX7_add_17 : decode cX7_add 17 = .ok (.iload_n 3, 1) := by decide +kernel
theorem dX7_add_18 : decode cX7_add 18 = .ok (.iconst 4, 1) := by decide +kernel
theorem dX7_add_19 : decode cX7_add 19 = .ok (.if_icmp .ge 25, 3) := by decide +kernel
theorem dX7_add_22 : decode cX7_add 22 = .ok (.aload_n 0, 1) := by decide +kernel
theorem dX7_add_23 : decode cX7_add 23 = .ok (.getfield 11, 3) := by decide +kernel
theorem dX7_add_26 : decode cX7_add 26 = .ok (.aload_n 0, 1) := by decide +kernel
theorem dX7_add_27 : decode cX7_add 27 = .ok (.getfield 15, 3) := by decide +kernel
theorem dX7_add_30 : decode cX7_add 30 = .ok (.iconst 5, 1) := by decide +kernel
theorem dX7_add_31 : decode cX7_add 31 = .ok (.imul, 1) := by decide +kernel
theorem dX7_add_32 : decode cX7_add 32 = .ok (.iload_n 3, 1) := by decide +kernel
theorem dX7_add_33 : decode cX7_add 33 = .ok (.iadd, 1) := by decide +kernel
theorem dX7_add_34 : decode cX7_add 34 = .ok (.aload_n 1, 1) := by decide +kernel
theorem dX7_add_35 : decode cX7_add 35 = .ok (.iload_n 3, 1) := by decide +kernel
theorem dX7_add_36 : decode cX7_add 36 = .ok (.iaload, 1) := by decide +kernel
theorem dX7_add_37 : decode cX7_add 37 = .ok (.iastore, 1) := by decide +kernel
theorem dX7_add_38 : decode cX7_add 38 = .ok (.iinc 3 1, 3) := by decide +kernel
theorem dX7_add_41 : decode cX7_add 41 = .ok (.goto (-24), 3) := by decide +kernel
theorem dX7_add_44 : decode cX7_add 44 = .ok (.aload_n 0, 1) := by decide +kernel
theorem dX7_add_45 : decode cX7_add 45 = .ok (.getfield 11, 3) := by decide +kernel
theorem dX7_add_48 : decode cX7_add 48 = .ok (.aload_n 0, 1) := by decide +kernel
theorem dX7_add_49 : decode cX7_add 49 = .ok (.getfield 15, 3) := by decide +kernel
theorem dX7_add_52 : decode cX7_add 52 = .ok (.iconst 5, 1) := by decide +kernel
theorem dX7_add_53 : decode cX7_add 53 = .ok (.imul, 1) := by decide +kernel
theorem dX7_add_54 : decode cX7_add 54 = .ok (.iconst 4, 1) := by decide +kernel
theorem dX7_add_55 : decode cX7_add 55 = .ok (.iadd, 1) := by decide +kernel
theorem dX7_add_56 : decode cX7_add 56 = .ok (.iload_n 2, 1) := by decide +kernel
theorem dX7_add_57 : decode cX7_add 57 = .ok (.iastore, 1) := by decide +kernel
theorem dX7_add_58 : decode cX7_add 58 = .ok (.aload_n 0, 1) := by decide +kernel
theorem dX7_add_59 : decode cX7_add 59 = .ok (.dup, 1) := by decide +kernel
theorem dX7_add_60 : decode cX7_add 60 = .ok (.getfield 15, 3) := by decide +kernel
theorem dX7_add_63 : decode cX7_add 63 = .ok (.iconst 1, 1) := by decide +kernel
theorem dX7_add_64 : decode cX7_add 64 = .ok (.iadd, 1) := by decide +kernel
theorem dX7_add_65 : decode cX7_add 65 = .ok (.putfield 15, 3) := by decide +kernel
theorem dX7_add_68 : decode cX7_add 68 = .ok (.return_, 1) := by decide +kernel
theorem dX7_removeAt_0 : decode cX7_removeAt 0 = .ok (.iload_n 1, 1) := by decide +kernel
theorem dX7_removeAt_1 : decode cX7_removeAt 1 = .ok (.ifCond .lt 57, 3) := by decide +kernel
theorem dX7_removeAt_4 : decode cX7_removeAt 4 = .ok (.iload_n 1, 1) := by decide +kernel
theorem dX7_removeAt_5 : decode cX7_removeAt 5 = .ok (.aload_n 0, 1) := by decide +kernel
theorem dX7_removeAt_6 : decode cX7_removeAt 6 = .ok (.getfield 15, 3) := by decide +kernel
theorem dX7_removeAt_9 : decode cX7_removeAt 9 = .ok (.if_icmp .ge 49, 3) := by decide +kernel
theorem dX7_removeAt_12 : decode cX7_removeAt 12 = .ok (.iload_n 1, 1) := by decide +kernel
theorem dX7_removeAt_13 : decode cX7_removeAt 13 = .ok (.iconst 5, 1) := by decide +kernel
theorem dX7_removeAt_14 : decode cX7_removeAt 14 = .ok (.imul, 1) := by decide +kernel
theorem dX7_removeAt_15 : decode cX7_removeAt 15 = .ok (.istore_n 2, 1) := by decide +kernel
theorem dX7_removeAt_16 : decode cX7_removeAt 16 = .ok (.iload_n 2, 1) := by decide +kernel
theorem dX7_removeAt_17 : decode cX7_removeAt 17 = .ok (.iconst 5, 1) := by decide +kernel
theorem dX7_removeAt_18 : decode cX7_removeAt 18 = .ok (.iadd, 1) := by decide +kernel
theorem dX7_removeAt_19 : decode cX7_removeAt 19 = .ok (.aload_n 0, 1) := by decide +kernel
theorem dX7_removeAt_20 : decode cX7_removeAt 20 = .ok (.getfield 15, 3) := by decide +kernel
theorem dX7_removeAt_23 : decode cX7_removeAt 23 = .ok (.iconst 5, 1) := by decide +kernel
theorem dX7_removeAt_24 : decode cX7_removeAt 24 = .ok (.imul, 1) := by decide +kernel
theorem dX7_removeAt_25 : decode cX7_removeAt 25 = .ok (.if_icmp .ge 23, 3) := by decide +kernel
theorem dX7_removeAt_28 : decode cX7_removeAt 28 = .ok (.aload_n 0, 1) := by decide +kernel
theorem dX7_removeAt_29 : decode cX7_removeAt 29 = .ok (.getfield 11, 3) := by decide +kernel
theorem dX7_removeAt_32 : decode cX7_removeAt 32 = .ok (.iload_n 2, 1) := by decide +kernel
theorem dX7_removeAt_33 : decode cX7_removeAt 33 = .ok (.aload_n 0, 1) := by decide +kernel
theorem dX7_removeAt_34 : decode cX7_removeAt 34 = .ok (.getfield 11, 3) := by decide +kernel
theorem dX7_removeAt_37 : decode cX7_removeAt 37 = .ok (.iload_n 2, 1) := by decide +kernel
theorem dX7_removeAt_38 : decode cX7_removeAt 38 = .ok (.iconst 5, 1) := by decide +kernel
theorem dX7_removeAt_39 : decode cX7_removeAt 39 = .ok (.iadd, 1) := by decide +kernel
theorem dX7_removeAt_40 : decode cX7_removeAt 40 = .ok (.iaload, 1) := by decide +kernel
theorem dX7_removeAt_41 : decode cX7_removeAt 41 = .ok (.iastore, 1) := by decide +kernel
theorem dX7_removeAt_42 : decode cX7_removeAt 42 = .ok (.iinc 2 1, 3) := by decide +kernel
theorem dX7_removeAt_45 : decode cX7_removeAt 45 = .ok (.goto (-29), 3) := by decide +kernel
theorem dX7_removeAt_48 : decode cX7_removeAt 48 = .ok (.aload_n 0, 1) := by decide +kernel
theorem dX7_removeAt_49 : decode cX7_removeAt 49 = .ok (.dup, 1) := by decide +kernel
theorem dX7_removeAt_50 : decode cX7_removeAt 50 = .ok (.getfield 15, 3) := by decide +kernel
theorem dX7_removeAt_53 : decode cX7_removeAt 53 = .ok (.iconst 1, 1) := by decide +kernel
theorem dX7_removeAt_54 : decode cX7_removeAt 54 = .ok (.isub, 1) := by decide +kernel
theorem dX7_removeAt_55 : decode cX7_removeAt 55 = .ok (.putfield 15, 3) := by decide +kernel
theorem dX7_removeAt_58 : decode cX7_removeAt 58 = .ok (.return_, 1) := by decide +kernel
theorem dX7_keptBy_0 : decode cX7_keptBy 0 = .ok (.iconst 0, 1) := by decide +kernel
theorem dX7_keptBy_1 : decode cX7_keptBy 1 = .ok (.istore_n 2, 1) := by decide +kernel
theorem dX7_keptBy_2 : decode cX7_keptBy 2 = .ok (.iconst 0, 1) := by decide +kernel
theorem dX7_keptBy_3 : decode cX7_keptBy 3 = .ok (.istore_n 3, 1) := by decide +kernel
theorem dX7_keptBy_4 : decode cX7_keptBy 4 = .ok (.iload_n 3, 1) := by decide +kernel
theorem dX7_keptBy_5 : decode cX7_keptBy 5 = .ok (.aload_n 0, 1) := by decide +kernel
theorem dX7_keptBy_6 : decode cX7_keptBy 6 = .ok (.getfield 15, 3) := by decide +kernel
theorem dX7_keptBy_9 : decode cX7_keptBy 9 = .ok (.iconst 5, 1) := by decide +kernel
theorem dX7_keptBy_10 : decode cX7_keptBy 10 = .ok (.imul, 1) := by decide +kernel
theorem dX7_keptBy_11 : decode cX7_keptBy 11 = .ok (.if_icmp .ge 32, 3) := by decide +kernel
theorem dX7_keptBy_14 : decode cX7_keptBy 14 = .ok (.aload_n 1, 1) := by decide +kernel
theorem dX7_keptBy_15 : decode cX7_keptBy 15 = .ok (.aload_n 0, 1) := by decide +kernel
theorem dX7_keptBy_16 : decode cX7_keptBy 16 = .ok (.getfield 11, 3) := by decide +kernel
theorem dX7_keptBy_19 : decode cX7_keptBy 19 = .ok (.iload_n 3, 1) := by decide +kernel
theorem dX7_keptBy_20 : decode cX7_keptBy 20 = .ok (.invokevirtual 19, 3) := by decide +kernel
theorem dX7_keptBy_23 : decode cX7_keptBy 23 = .ok (.aload_n 0, 1) := by decide +kernel
theorem dX7_keptBy_24 : decode cX7_keptBy 24 = .ok (.getfield 11, 3) := by decide +kernel
theorem dX7_keptBy_27 : decode cX7_keptBy 27 = .ok (.iload_n 3, 1) := by decide +kernel
theorem dX7_keptBy_28 : decode cX7_keptBy 28 = .ok (.iconst 4, 1) := by decide +kernel
theorem dX7_keptBy_29 : decode cX7_keptBy 29 = .ok (.iadd, 1) := by decide +kernel
theorem dX7_keptBy_30 : decode cX7_keptBy 30 = .ok (.iaload, 1) := by decide +kernel
theorem dX7_keptBy_31 : decode cX7_keptBy 31 = .ok (.if_icmp .ne 6, 3) := by decide +kernel
theorem dX7_keptBy_34 : decode cX7_keptBy 34 = .ok (.iinc 2 1, 3) := by decide +kernel
theorem dX7_keptBy_37 : decode cX7_keptBy 37 = .ok (.iinc 3 5, 3) := by decide +kernel
theorem dX7_keptBy_40 : decode cX7_keptBy 40 = .ok (.goto (-36), 3) := by decide +kernel
theorem dX7_keptBy_43 : decode cX7_keptBy 43 = .ok (.iload_n 2, 1) := by decide +kernel
theorem dX7_keptBy_44 : decode cX7_keptBy 44 = .ok (.ireturn, 1) := by decide +kernel
theorem dX7_areAllKeptBy_0 : decode cX7_areAllKeptBy 0 = .ok (.iconst 0, 1) := by decide +kernel
theorem dX7_areAllKeptBy_1 : decode cX7_areAllKeptBy 1 = .ok (.istore_n 2, 1) := by decide +kernel
theorem dX7_areAllKeptBy_2 : decode cX7_areAllKeptBy 2 = .ok (.iload_n 2, 1) := by decide +kernel
theorem dX7_areAllKeptBy_3 : decode cX7_areAllKeptBy 3 = .ok (.aload_n 0, 1) := by decide +kernel
theorem dX7_areAllKeptBy_4 : decode cX7_areAllKeptBy 4 = .ok (.getfield 15, 3) := by decide +kernel
theorem dX7_areAllKeptBy_7 : decode cX7_areAllKeptBy 7 = .ok (.iconst 5, 1) := by decide +kernel
theorem dX7_areAllKeptBy_8 : decode cX7_areAllKeptBy 8 = .ok (.imul, 1) := by decide +kernel
theorem dX7_areAllKeptBy_9 : decode cX7_areAllKeptBy 9 = .ok (.if_icmp .ge 31, 3) := by decide +kernel
theorem dX7_areAllKeptBy_12 : decode cX7_areAllKeptBy 12 = .ok (.aload_n 1, 1) := by decide +kernel
theorem dX7_areAllKeptBy_13 : decode cX7_areAllKeptBy 13 = .ok (.aload_n 0, 1) := by decide +kernel
theorem dX7_areAllKeptBy_14 : decode cX7_areAllKeptBy 14 = .ok (.getfield 11, 3) := by decide +kernel
theorem dX7_areAllKeptBy_17 : decode cX7_areAllKeptBy 17 = .ok (.iload_n 2, 1) := by decide +kernel
theorem dX7_areAllKeptBy_18 : decode cX7_areAllKeptBy 18 = .ok (.invokevirtual 19, 3) := by decide +kernel
theorem dX7_areAllKeptBy_21 : decode cX7_areAllKeptBy 21 = .ok (.aload_n 0, 1) := by decide +kernel
theorem dX7_areAllKeptBy_22 : decode cX7_areAllKeptBy 22 = .ok (.getfield 11, 3) := by decide +kernel
theorem dX7_areAllKeptBy_25 : decode cX7_areAllKeptBy 25 = .ok (.iload_n 2, 1) := by decide +kernel
theorem dX7_areAllKeptBy_26 : decode cX7_areAllKeptBy 26 = .ok (.iconst 4, 1) := by decide +kernel
theorem dX7_areAllKeptBy_27 : decode cX7_areAllKeptBy 27 = .ok (.iadd, 1) := by decide +kernel
theorem dX7_areAllKeptBy_28 : decode cX7_areAllKeptBy 28 = .ok (.iaload, 1) := by decide +kernel
theorem dX7_areAllKeptBy_29 : decode cX7_areAllKeptBy 29 = .ok (.if_icmp .eq 5, 3) := by decide +kernel
theorem dX7_areAllKeptBy_32 : decode cX7_areAllKeptBy 32 = .ok (.iconst 0, 1) := by decide +kernel
theorem dX7_areAllKeptBy_33 : decode cX7_areAllKeptBy 33 = .ok (.ireturn, 1) := by decide +kernel
theorem dX7_areAllKeptBy_34 : decode cX7_areAllKeptBy 34 = .ok (.iinc 2 5, 3) := by decide +kernel
theorem dX7_areAllKeptBy_37 : decode cX7_areAllKeptBy 37 = .ok (.goto (-35), 3) := by decide +kernel
theorem dX7_areAllKeptBy_40 : decode cX7_areAllKeptBy 40 = .ok (.iconst 1, 1) := by decide +kernel
theorem dX7_areAllKeptBy_41 : decode cX7_areAllKeptBy 41 = .ok (.ireturn, 1) := by decide +kernel
theorem dX8_init_0 : decode cX8_init 0 = .ok (.aload_n 0, 1) := by decide +kernel
theorem dX8_init_1 : decode cX8_init 1 = .ok (.invokespecial 1, 3) := by decide +kernel
theorem dX8_init_4 : decode cX8_init 4 = .ok (.aload_n 0, 1) := by decide +kernel
theorem dX8_init_5 : decode cX8_init 5 = .ok (.new 7, 3) := by decide +kernel
theorem dX8_init_8 : decode cX8_init 8 = .ok (.dup, 1) := by decide +kernel
theorem dX8_init_9 : decode cX8_init 9 = .ok (.invokespecial 9, 3) := by decide +kernel
theorem dX8_init_12 : decode cX8_init 12 = .ok (.putfield 10, 3) := by decide +kernel
theorem dX8_init_15 : decode cX8_init 15 = .ok (.aload_n 0, 1) := by decide +kernel
theorem dX8_init_16 : decode cX8_init 16 = .ok (.new 7, 3) := by decide +kernel
theorem dX8_init_19 : decode cX8_init 19 = .ok (.dup, 1) := by decide +kernel
theorem dX8_init_20 : decode cX8_init 20 = .ok (.invokespecial 9, 3) := by decide +kernel
theorem dX8_init_23 : decode cX8_init 23 = .ok (.putfield 16, 3) := by decide +kernel
theorem dX8_init_26 : decode cX8_init 26 = .ok (.aload_n 0, 1) := by decide +kernel
theorem dX8_init_27 : decode cX8_init 27 = .ok (.iconst 4, 1) := by decide +kernel
theorem dX8_init_28 : decode cX8_init 28 = .ok (.newarray .int, 2) := by decide +kernel
theorem dX8_init_30 : decode cX8_init 30 = .ok (.putfield 19, 3) := by decide +kernel
theorem dX8_init_33 : decode cX8_init 33 = .ok (.aload_n 0, 1) := by decide +kernel
theorem dX8_init_34 : decode cX8_init 34 = .ok (.new 23, 3) := by decide +kernel
theorem dX8_init_37 : decode cX8_init 37 = .ok (.dup, 1) := by decide +kernel
theorem dX8_init_38 : decode cX8_init 38 = .ok (.invokespecial 25, 3) := by decide +kernel
theorem dX8_init_41 : decode cX8_init 41 = .ok (.putfield 26, 3) := by decide +kernel
theorem dX8_init_44 : decode cX8_init 44 = .ok (.aload_n 0, 1) := by decide +kernel
theorem dX8_init_45 : decode cX8_init 45 = .ok (.new 23, 3) := by decide +kernel
theorem dX8_init_48 : decode cX8_init 48 = .ok (.dup, 1) := by decide +kernel
theorem dX8_init_49 : decode cX8_init 49 = .ok (.invokespecial 25, 3) := by decide +kernel
theorem dX8_init_52 : decode cX8_init 52 = .ok (.putfield 30, 3) := by decide +kernel
theorem dX8_init_55 : decode cX8_init 55 = .ok (.aload_n 0, 1) := by decide +kernel
theorem dX8_init_56 : decode cX8_init 56 = .ok (.new 33, 3) := by decide +kernel
theorem dX8_init_59 : decode cX8_init 59 = .ok (.dup, 1) := by decide +kernel
theorem dX8_init_60 : decode cX8_init 60 = .ok (.invokespecial 35, 3) := by decide +kernel
theorem dX8_init_63 : decode cX8_init 63 = .ok (.putfield 36, 3) := by decide +kernel
theorem dX8_init_66 : decode cX8_init 66 = .ok (.aload_n 0, 1) := by decide +kernel
theorem dX8_init_67 : decode cX8_init 67 = .ok (.new 40, 3) := by decide +kernel
theorem dX8_init_70 : decode cX8_init 70 = .ok (.dup, 1) := by decide +kernel
theorem dX8_init_71 : decode cX8_init 71 = .ok (.invokespecial 42, 3) := by decide +kernel
theorem dX8_init_74 : decode cX8_init 74 = .ok (.putfield 43, 3) := by decide +kernel
theorem dX8_init_77 : decode cX8_init 77 = .ok (.aload_n 0, 1) := by decide +kernel
theorem dX8_init_78 : decode cX8_init 78 = .ok (.new 47, 3) := by decide +kernel
theorem dX8_init_81 : decode cX8_init 81 = .ok (.dup, 1) := by decide +kernel
theorem dX8_init_82 : decode cX8_init 82 = .ok (.invokespecial 49, 3) := by decide +kernel
theorem dX8_init_85 : decode cX8_init 85 = .ok (.putfield 50, 3) := by decide +kernel
theorem dX8_init_88 : decode cX8_init 88 = .ok (.aload_n 0, 1) := by decide +kernel
theorem dX8_init_89 : decode cX8_init 89 = .ok (.iconst 0, 1) := by decide +kernel
theorem dX8_init_90 : decode cX8_init 90 = .ok (.putfield 54, 3) := by decide +kernel
theorem dX8_init_93 : decode cX8_init 93 = .ok (.return_, 1) := by decide +kernel
theorem dX8_put_0 : decode cX8_put 0 = .ok (.iload_n 1, 1) := by decide +kernel
theorem dX8_put_1 : decode cX8_put 1 = .ok (.invokestatic 58, 3) := by decide +kernel
theorem dX8_put_4 : decode cX8_put 4 = .ok (.ifCond .ne 9, 3) := by decide +kernel
theorem dX8_put_7 : decode cX8_put 7 = .ok (.aload_n 0, 1) := by decide +kernel
theorem dX8_put_8 : decode cX8_put 8 = .ok (.iconst (-1), 1) := by decide +kernel
theorem dX8_put_9 : decode cX8_put 9 = .ok (.invokevirtual 62, 3) := by decide +kernel
theorem dX8_put_12 : decode cX8_put 12 = .ok (.ireturn, 1) := by decide +kernel
theorem dX8_put_13 : decode cX8_put 13 = .ok (.aload_n 0, 1) := by decide +kernel
theorem dX8_put_14 : decode cX8_put 14 = .ok (.getfield 10, 3) := by decide +kernel
theorem dX8_put_17 : decode cX8_put 17 = .ok (.invokevirtual 66, 3) := by decide +kernel
theorem dX8_put_20 : decode cX8_put 20 = .ok (.bipush 10, 2) := by decide +kernel
theorem dX8_put_22 : decode cX8_put 22 = .ok (.if_icmp .lt 10, 3) := by decide +kernel
theorem dX8_put_25 : decode cX8_put 25 = .ok (.aload_n 0, 1) := by decide +kernel
theorem dX8_put_26 : decode cX8_put 26 = .ok (.bipush (-5), 2) := by decide +kernel
theorem dX8_put_28 : decode cX8_put 28 = .ok (.invokevirtual 62, 3) := by decide +kernel
theorem dX8_put_31 : decode cX8_put 31 = .ok (.ireturn, 1) := by decide +kernel
theorem dX8_put_32 : decode cX8_put 32 = .ok (.aload_n 0, 1) := by decide +kernel
theorem dX8_put_33 : decode cX8_put 33 = .ok (.getfield 10, 3) := by decide +kernel
theorem dX8_put_36 : decode cX8_put 36 = .ok (.iload_n 1, 1) := by decide +kernel
theorem dX8_put_37 : decode cX8_put 37 = .ok (.invokevirtual 70, 3) := by decide +kernel
theorem dX8_put_40 : decode cX8_put 40 = .ok (.aload_n 0, 1) := by decide +kernel
theorem dX8_put_41 : decode cX8_put 41 = .ok (.aload_n 0, 1) := by decide +kernel
theorem dX8_put_42 : decode cX8_put 42 = .ok (.getfield 10, 3) := by decide +kernel
theorem dX8_put_45 : decode cX8_put 45 = .ok (.invokevirtual 66, 3) := by decide +kernel
theorem dX8_put_48 : decode cX8_put 48 = .ok (.invokevirtual 74, 3) := by decide +kernel
theorem dX8_put_51 : decode cX8_put 51 = .ok (.ireturn, 1) := by decide +kernel
theorem dX8_set_0 : decode cX8_set 0 = .ok (.iload_n 2, 1) := by decide +kernel
theorem dX8_set_1 : decode cX8_set 1 = .ok (.iconst (-1), 1) := by decide +kernel
theorem dX8_set_2 : decode cX8_set 2 = .ok (.if_icmp .eq 16, 3) := by decide +kernel
theorem dX8_set_5 : decode cX8_set 5 = .ok (.iload_n 2, 1) := by decide +kernel
theorem dX8_set_6 : decode cX8_set 6 = .ok (.invokestatic 58, 3) := by decide +kernel
theorem dX8_set_9 : decode cX8_set 9 = .ok (.ifCond .ne 9, 3) := by decide +kernel
theorem dX8_set_12 : decode cX8_set 12 = .ok (.aload_n 0, 1) := by decide +kernel
theorem dX8_set_13 : decode cX8_set 13 = .ok (.iconst (-1), 1) := by decide +kernel
theorem dX8_set_14 : decode cX8_set 14 = .ok (.invokevirtual 62, 3) := by decide +kernel
theorem dX8_set_17 : decode cX8_set 17 = .ok (.ireturn, 1) := by decide +kernel
theorem dX8_set_18 : decode cX8_set 18 = .ok (.iload_n 1, 1) := by decide +kernel
theorem dX8_set_19 : decode cX8_set 19 = .ok (.ifCond .lt 14, 3) := by decide +kernel
theorem dX8_set_22 : decode cX8_set 22 = .ok (.iload_n 1, 1) := by decide +kernel
theorem dX8_set_23 : decode cX8_set 23 = .ok (.aload_n 0, 1) := by decide +kernel
theorem dX8_set_24 : decode cX8_set 24 = .ok (.getfield 10, 3) := by decide +kernel
theorem dX8_set_27 : decode cX8_set 27 = .ok (.invokevirtual 66, 3) := by decide +kernel
theorem dX8_set_30 : decode cX8_set 30 = .ok (.if_icmp .lt 10, 3) := by decide +kernel
theorem dX8_set_33 : decode cX8_set 33 = .ok (.aload_n 0, 1) := by decide +kernel
theorem dX8_set_34 : decode cX8_set 34 = .ok (.bipush (-2), 2) := by decide +kernel
theorem dX8_set_36 : decode cX8_set 36 = .ok (.invokevirtual 62, 3) := by decide +kernel
theorem dX8_set_39 : decode cX8_set 39 = .ok (.ireturn, 1) := by decide +kernel
theorem dX8_set_40 : decode cX8_set 40 = .ok (.iload_n 2, 1) := by decide +kernel
theorem dX8_set_41 : decode cX8_set 41 = .ok (.iconst (-1), 1) := by decide +kernel
theorem dX8_set_42 : decode cX8_set 42 = .ok (.if_icmp .ne 14, 3) := by decide +kernel
theorem dX8_set_45 : decode cX8_set 45 = .ok (.aload_n 0, 1) := by decide +kernel
theorem dX8_set_46 : decode cX8_set 46 = .ok (.getfield 10, 3) := by decide +kernel
theorem dX8_set_49 : decode cX8_set 49 = .ok (.iload_n 1, 1) := by decide +kernel
theorem dX8_set_50 : decode cX8_set 50 = .ok (.invokevirtual 77, 3) := by decide +kernel
theorem dX8_set_53 : decode cX8_set 53 = .ok (.goto 12, 3) := by decide +kernel
theorem dX8_set_56 : decode cX8_set 56 = .ok (.aload_n 0, 1) := by decide +kernel
theorem dX8_set_57 : decode cX8_set 57 = .ok (.getfield 10, 3) := by decide +kernel
theorem dX8_set_60 : decode cX8_set 60 = .ok (.iload_n 1, 1) := by decide +kernel
theorem dX8_set_61 : decode cX8_set 61 = .ok (.iload_n 2, 1) := by decide +kernel
theorem dX8_set_62 : decode cX8_set 62 = .ok (.invokevirtual 80, 3) := by decide +kernel
theorem dX8_set_65 : decode cX8_set 65 = .ok (.aload_n 0, 1) := by decide +kernel
theorem dX8_set_66 : decode cX8_set 66 = .ok (.aload_n 0, 1) := by decide +kernel
theorem dX8_set_67 : decode cX8_set 67 = .ok (.getfield 10, 3) := by decide +kernel
theorem dX8_set_70 : decode cX8_set 70 = .ok (.invokevirtual 66, 3) := by decide +kernel
theorem dX8_set_73 : decode cX8_set 73 = .ok (.invokevirtual 74, 3) := by decide +kernel
theorem dX8_set_76 : decode cX8_set 76 = .ok (.ireturn, 1) := by decide +kernel
theorem dX8_clear_0 : decode cX8_clear 0 = .ok (.aload_n 0, 1) := by decide +kernel
theorem dX8_clear_1 : decode cX8_clear 1 = .ok (.getfield 10, 3) := by decide +kernel
theorem dX8_clear_4 : decode cX8_clear 4 = .ok (.invokevirtual 66, 3) := by decide +kernel
theorem dX8_clear_7 : decode cX8_clear 7 = .ok (.istore_n 1, 1) := by decide +kernel
theorem dX8_clear_8 : decode cX8_clear 8 = .ok (.aload_n 0, 1) := by decide +kernel
theorem dX8_clear_9 : decode cX8_clear 9 = .ok (.getfield 10, 3) := by decide +kernel
theorem dX8_clear_12 : decode cX8_clear 12 = .ok (.iconst 0, 1) := by decide +kernel
theorem dX8_clear_13 : decode cX8_clear 13 = .ok (.invokevirtual 84, 3) := by decide +kernel
theorem dX8_clear_16 : decode cX8_clear 16 = .ok (.iload_n 1, 1) := by decide +kernel
theorem dX8_clear_17 : decode cX8_clear 17 = .ok (.ireturn, 1) := by decide +kernel
theorem dX8_token_0 : decode cX8_token 0 = .ok (.iload_n 1, 1) := by decide +kernel
theorem dX8_token_1 : decode cX8_token 1 = .ok (.iconst (-1), 1) := by decide +kernel
theorem dX8_token_2 : decode cX8_token 2 = .ok (.if_icmp .ne 13, 3) := by decide +kernel
theorem dX8_token_5 : decode cX8_token 5 = .ok (.aload_n 0, 1) := by decide +kernel
theorem dX8_token_6 : decode cX8_token 6 = .ok (.getfield 10, 3) := by decide +kernel
theorem dX8_token_9 : decode cX8_token 9 = .ok (.invokevirtual 66, 3) := by decide +kernel
theorem dX8_token_12 : decode cX8_token 12 = .ok (.goto 11, 3) := by decide +kernel
theorem dX8_token_15 : decode cX8_token 15 = .ok (.aload_n 0, 1) := by decide +kernel
theorem dX8_token_16 : decode cX8_token 16 = .ok (.getfield 10, 3) := by decide +kernel
theorem dX8_token_19 : decode cX8_token 19 = .ok (.iload_n 1, 1) := by decide +kernel
theorem dX8_token_20 : decode cX8_token 20 = .ok (.invokevirtual 87, 3) := by decide +kernel
theorem dX8_token_23 : decode cX8_token 23 = .ok (.ireturn, 1) := by decide +kernel
theorem dX8_kind_0 : decode cX8_kind 0 = .ok (.iload_n 1, 1) := by decide +kernel
theorem dX8_kind_1 : decode cX8_kind 1 = .ok (.ifCond .lt 15, 3) := by decide +kernel
theorem dX8_kind_4 : decode cX8_kind 4 = .ok (.iload_n 1, 1) := by decide +kernel
theorem dX8_kind_5 : decode cX8_kind 5 = .ok (.iconst 4, 1) := by decide +kernel
theorem dX8_kind_6 : decode cX8_kind 6 = .ok (.if_icmp .ge 10, 3) := by decide +kernel
theorem dX8_kind_9 : decode cX8_kind 9 = .ok (.iload_n 2, 1) := by decide +kernel
theorem dX8_kind_10 : decode cX8_kind 10 = .ok (.invokestatic 90, 3) := by decide +kernel
theorem dX8_kind_13 : decode cX8_kind 13 = .ok (.ifCond .ne 9, 3) := by decide +kernel
theorem dX8_kind_16 : decode cX8_kind 16 = .ok (.aload_n 0, 1) := by decide +kernel
theorem dX8_kind_17 : decode cX8_kind 17 = .ok (.iconst (-1), 1) := by decide +kernel
theorem dX8_kind_18 : decode cX8_kind 18 = .ok (.invokevirtual 62, 3) := by decide +kernel
theorem dX8_kind_21 : decode cX8_kind 21 = .ok (.ireturn, 1) := by decide +kernel
theorem dX8_kind_22 : decode cX8_kind 22 = .ok (.aload_n 0, 1) := by decide +kernel
theorem dX8_kind_23 : decode cX8_kind 23 = .ok (.getfield 36, 3) := by decide +kernel
theorem dX8_kind_26 : decode cX8_kind 26 = .ok (.getfield 93, 3) := by decide +kernel
theorem dX8_kind_29 : decode cX8_kind 29 = .ok (.iload_n 1, 1) := by decide +kernel
theorem dX8_kind_30 : decode cX8_kind 30 = .ok (.iaload, 1) := by decide +kernel
theorem dX8_kind_31 : decode cX8_kind 31 = .ok (.istore_n 3, 1) := by decide +kernel
theorem dX8_kind_32 : decode cX8_kind 32 = .ok (.aload_n 0, 1) := by decide +kernel
theorem dX8_kind_33 : decode cX8_kind 33 = .ok (.getfield 36, 3) := by decide +kernel
theorem dX8_kind_36 : decode cX8_kind 36 = .ok (.getfield 93, 3) := by decide +kernel
theorem dX8_kind_39 : decode cX8_kind 39 = .ok (.iload_n 1, 1) := by decide +kernel
theorem dX8_kind_40 : decode cX8_kind 40 = .ok (.iload_n 2, 1) := by decide +kernel
theorem dX8_kind_41 : decode cX8_kind 41 = .ok (.iastore, 1) := by decide +kernel
theorem dX8_kind_42 : decode cX8_kind 42 = .ok (.aload_n 0, 1) := by decide +kernel
theorem dX8_kind_43 : decode cX8_kind 43 = .ok (.iload_n 3, 1) := by decide +kernel
theorem dX8_kind_44 : decode cX8_kind 44 = .ok (.invokevirtual 74, 3) := by decide +kernel
theorem dX8_kind_47 : decode cX8_kind 47 = .ok (.ireturn, 1) := by decide +kernel
theorem dX8_fault_0 : decode cX8_fault 0 = .ok (.aload_n 0, 1) := by decide +kernel
theorem dX8_fault_1 : decode cX8_fault 1 = .ok (.getfield 10, 3) := by decide +kernel
theorem dX8_fault_4 : decode cX8_fault 4 = .ok (.invokestatic 96, 3) := by decide +kernel
theorem dX8_fault_7 : decode cX8_fault 7 = .ok (.ireturn, 1) := by decide +kernel
theorem dX8_fits_0 : decode cX8_fits 0 = .ok (.aload_n 0, 1) := by decide +kernel
theorem dX8_fits_1 : decode cX8_fits 1 = .ok (.getfield 10, 3) := by decide +kernel
theorem dX8_fits_4 : decode cX8_fits 4 = .ok (.invokestatic 96, 3) := by decide +kernel
theorem dX8_fits_7 : decode cX8_fits 7 = .ok (.iconst (-1), 1) := by decide +kernel
theorem dX8_fits_8 : decode cX8_fits 8 = .ok (.if_icmp .eq 6, 3) := by decide +kernel
theorem dX8_fits_11 : decode cX8_fits 11 = .ok (.bipush (-5), 2) := by decide +kernel
theorem dX8_fits_13 : decode cX8_fits 13 = .ok (.ireturn, 1) := by decide +kernel
theorem dX8_fits_14 : decode cX8_fits 14 = .ok (.aload_n 0, 1) := by decide +kernel
theorem dX8_fits_15 : decode cX8_fits 15 = .ok (.getfield 26, 3) := by decide +kernel
theorem dX8_fits_18 : decode cX8_fits 18 = .ok (.aload_n 0, 1) := by decide +kernel
theorem dX8_fits_19 : decode cX8_fits 19 = .ok (.getfield 10, 3) := by decide +kernel
theorem dX8_fits_22 : decode cX8_fits 22 = .ok (.aload_n 0, 1) := by decide +kernel
theorem dX8_fits_23 : decode cX8_fits 23 = .ok (.getfield 36, 3) := by decide +kernel
theorem dX8_fits_26 : decode cX8_fits 26 = .ok (.getfield 93, 3) := by decide +kernel
theorem dX8_fits_29 : decode cX8_fits 29 = .ok (.invokevirtual 102, 3) := by decide +kernel
theorem dX8_fits_32 : decode cX8_fits 32 = .ok (.istore_n 1, 1) := by decide +kernel
theorem dX8_fits_33 : decode cX8_fits 33 = .ok (.iload_n 1, 1) := by decide +kernel
theorem dX8_fits_34 : decode cX8_fits 34 = .ok (.iconst (-1), 1) := by decide +kernel
theorem dX8_fits_35 : decode cX8_fits 35 = .ok (.if_icmp .ne 8, 3) := by decide +kernel
theorem dX8_fits_38 : decode cX8_fits 38 = .ok (.bipush (-6), 2) := by decide +kernel
theorem dX8_fits_40 : decode cX8_fits 40 = .ok (.goto 4, 3) := by decide +kernel
theorem dX8_fits_43 : decode cX8_fits 43 = .ok (.iload_n 1, 1) := by decide +kernel
theorem dX8_fits_44 : decode cX8_fits 44 = .ok (.ireturn, 1) := by decide +kernel
theorem dX8_value_0 : decode cX8_value 0 = .ok (.aload_n 0, 1) := by decide +kernel
theorem dX8_value_1 : decode cX8_value 1 = .ok (.aload_n 0, 1) := by decide +kernel
theorem dX8_value_2 : decode cX8_value 2 = .ok (.getfield 10, 3) := by decide +kernel
theorem dX8_value_5 : decode cX8_value 5 = .ok (.aload_n 0, 1) := by decide +kernel
theorem dX8_value_6 : decode cX8_value 6 = .ok (.getfield 26, 3) := by decide +kernel
theorem dX8_value_9 : decode cX8_value 9 = .ok (.invokevirtual 106, 3) := by decide +kernel
theorem dX8_value_12 : decode cX8_value 12 = .ok (.ifCond .ne 6, 3) := by decide +kernel
theorem dX8_value_15 : decode cX8_value 15 = .ok (.ldc 110, 2) := by decide +kernel
theorem dX8_value_17 : decode cX8_value 17 = .ok (.ireturn, 1) := by decide +kernel
theorem dX8_value_18 : decode cX8_value 18 = .ok (.aload_n 0, 1) := by decide +kernel
theorem dX8_value_19 : decode cX8_value 19 = .ok (.iload_n 1, 1) := by decide +kernel
theorem dX8_value_20 : decode cX8_value 20 = .ok (.iload_n 2, 1) := by decide +kernel
theorem dX8_value_21 : decode cX8_value 21 = .ok (.iload_n 3, 1) := by decide +kernel
theorem dX8_value_22 : decode cX8_value 22 = .ok (.iload 4, 2) := by decide +kernel
theorem dX8_value_24 : decode cX8_value 24 = .ok (.invokevirtual 111, 3) := by decide +kernel
theorem dX8_value_27 : decode cX8_value 27 = .ok (.aload_n 0, 1) := by decide +kernel
theorem dX8_value_28 : decode cX8_value 28 = .ok (.getfield 26, 3) := by decide +kernel
theorem dX8_value_31 : decode cX8_value 31 = .ok (.aload_n 0, 1) := by decide +kernel
theorem dX8_value_32 : decode cX8_value 32 = .ok (.getfield 19, 3) := by decide +kernel
theorem dX8_value_35 : decode cX8_value 35 = .ok (.iconst 0, 1) := by decide +kernel
theorem dX8_value_36 : decode cX8_value 36 = .ok (.invokevirtual 115, 3) := by decide +kernel
theorem dX8_value_39 : decode cX8_value 39 = .ok (.ireturn, 1) := by decide +kernel
theorem dX8_test_0 : decode cX8_test 0 = .ok (.iload_n 1, 1) := by decide +kernel
theorem dX8_test_1 : decode cX8_test 1 = .ok (.invokestatic 119, 3) := by decide +kernel
theorem dX8_test_4 : decode cX8_test 4 = .ok (.ifCond .eq 34, 3) := by decide +kernel
theorem dX8_test_7 : decode cX8_test 7 = .ok (.iload_n 2, 1) := by decide +kernel
theorem dX8_test_8 : decode cX8_test 8 = .ok (.invokestatic 119, 3) := by decide +kernel
theorem dX8_test_11 : decode cX8_test 11 = .ok (.ifCond .eq 27, 3) := by decide +kernel
theorem dX8_test_14 : decode cX8_test 14 = .ok (.iload_n 3, 1) := by decide +kernel
theorem dX8_test_15 : decode cX8_test 15 = .ok (.invokestatic 119, 3) := by decide +kernel
theorem dX8_test_18 : decode cX8_test 18 = .ok (.ifCond .eq 20, 3) := by decide +kernel
theorem dX8_test_21 : decode cX8_test 21 = .ok (.iload 4, 2) := by decide +kernel
theorem dX8_test_23 : decode cX8_test 23 = .ok (.invokestatic 119, 3) := by decide +kernel
theorem dX8_test_26 : decode cX8_test 26 = .ok (.ifCond .eq 12, 3) := by decide +kernel
theorem dX8_test_29 : decode cX8_test 29 = .ok (.iload 5, 2) := by decide +kernel
theorem dX8_test_31 : decode cX8_test 31 = .ok (.i2l, 1) := by decide +kernel
theorem dX8_test_32 : decode cX8_test 32 = .ok (.invokestatic 122, 3) := by decide +kernel
theorem dX8_test_35 : decode cX8_test 35 = .ok (.ifCond .eq 9, 3) := by decide +kernel
theorem dX8_test_38 : decode cX8_test 38 = .ok (.aload_n 0, 1) := by decide +kernel
theorem dX8_test_39 : decode cX8_test 39 = .ok (.iconst (-1), 1) := by decide +kernel
theorem dX8_test_40 : decode cX8_test 40 = .ok (.invokevirtual 62, 3) := by decide +kernel
theorem dX8_test_43 : decode cX8_test 43 = .ok (.ireturn, 1) := by decide +kernel
theorem dX8_test_44 : decode cX8_test 44 = .ok (.aload_n 0, 1) := by decide +kernel
theorem dX8_test_45 : decode cX8_test 45 = .ok (.getfield 36, 3) := by decide +kernel
theorem dX8_test_48 : decode cX8_test 48 = .ok (.getfield 126, 3) := by decide +kernel
theorem dX8_test_51 : decode cX8_test 51 = .ok (.invokevirtual 130, 3) := by decide +kernel
theorem dX8_test_54 : decode cX8_test 54 = .ok (.bipush 8, 2) := by decide +kernel
theorem dX8_test_56 : decode cX8_test 56 = .ok (.if_icmp .lt 10, 3) := by decide +kernel
theorem dX8_test_59 : decode cX8_test 59 = .ok (.aload_n 0, 1) := by decide +kernel
theorem dX8_test_60 : decode cX8_test 60 = .ok (.bipush (-5), 2) := by decide +kernel
theorem dX8_test_62 : decode cX8_test 62 = .ok (.invokevirtual 62, 3) := by decide +kernel
theorem dX8_test_65 : decode cX8_test 65 = .ok (.ireturn, 1) := by decide +kernel
theorem dX8_test_66 : decode cX8_test 66 = .ok (.aload_n 0, 1) := by decide +kernel
theorem dX8_test_67 : decode cX8_test 67 = .ok (.iload_n 1, 1) := by decide +kernel
theorem dX8_test_68 : decode cX8_test 68 = .ok (.iload_n 2, 1) := by decide +kernel
theorem dX8_test_69 : decode cX8_test 69 = .ok (.iload_n 3, 1) := by decide +kernel
theorem dX8_test_70 : decode cX8_test 70 = .ok (.iload 4, 2) := by decide +kernel
theorem dX8_test_72 : decode cX8_test 72 = .ok (.invokevirtual 111, 3) := by decide +kernel
theorem dX8_test_75 : decode cX8_test 75 = .ok (.aload_n 0, 1) := by decide +kernel
theorem dX8_test_76 : decode cX8_test 76 = .ok (.getfield 36, 3) := by decide +kernel
theorem dX8_test_79 : decode cX8_test 79 = .ok (.getfield 126, 3) := by decide +kernel
theorem dX8_test_82 : decode cX8_test 82 = .ok (.aload_n 0, 1) := by decide +kernel
theorem dX8_test_83 : decode cX8_test 83 = .ok (.getfield 19, 3) := by decide +kernel
theorem dX8_test_86 : decode cX8_test 86 = .ok (.iload 5, 2) := by decide +kernel
theorem dX8_test_88 : decode cX8_test 88 = .ok (.invokevirtual 133, 3) := by decide +kernel
theorem dX8_test_91 : decode cX8_test 91 = .ok (.aload_n 0, 1) := by decide +kernel
theorem dX8_test_92 : decode cX8_test 92 = .ok (.aload_n 0, 1) := by decide +kernel
theorem dX8_test_93 : decode cX8_test 93 = .ok (.getfield 36, 3) := by decide +kernel
theorem dX8_test_96 : decode cX8_test 96 = .ok (.getfield 126, 3) := by decide +kernel
theorem dX8_test_99 : decode cX8_test 99 = .ok (.invokevirtual 130, 3) := by decide +kernel
theorem dX8_test_102 : decode cX8_test 102 = .ok (.iconst 1, 1) := by decide +kernel
theorem dX8_test_103 : decode cX8_test 103 = .ok (.isub, 1) := by decide +kernel
theorem dX8_test_104 : decode cX8_test 104 = .ok (.invokevirtual 74, 3) := by decide +kernel
theorem dX8_test_107 : decode cX8_test 107 = .ok (.ireturn, 1) := by decide +kernel
theorem dX8_drop_0 : decode cX8_drop 0 = .ok (.iload_n 1, 1) := by decide +kernel
theorem dX8_drop_1 : decode cX8_drop 1 = .ok (.ifCond .lt 17, 3) := by decide +kernel
theorem dX8_drop_4 : decode cX8_drop 4 = .ok (.iload_n 1, 1) := by decide +kernel
theorem dX8_drop_5 : decode cX8_drop 5 = .ok (.aload_n 0, 1) := by decide +kernel
theorem dX8_drop_6 : decode cX8_drop 6 = .ok (.getfield 36, 3) := by decide +kernel
theorem dX8_drop_9 : decode cX8_drop 9 = .ok (.getfield 126, 3) := by decide +kernel
theorem dX8_drop_12 : decode cX8_drop 12 = .ok (.invokevirtual 130, 3) := by decide +kernel
theorem dX8_drop_15 : decode cX8_drop 15 = .ok (.if_icmp .lt 10, 3) := by decide +kernel
theorem dX8_drop_18 : decode cX8_drop 18 = .ok (.aload_n 0, 1) := by decide +kernel
theorem dX8_drop_19 : decode cX8_drop 19 = .ok (.bipush (-2), 2) := by decide +kernel
theorem dX8_drop_21 : decode cX8_drop 21 = .ok (.invokevirtual 62, 3) := by decide +kernel
theorem dX8_drop_24 : decode cX8_drop 24 = .ok (.ireturn, 1) := by decide +kernel
theorem dX8_drop_25 : decode cX8_drop 25 = .ok (.aload_n 0, 1) := by decide +kernel
theorem dX8_drop_26 : decode cX8_drop 26 = .ok (.getfield 36, 3) := by decide +kernel
theorem dX8_drop_29 : decode cX8_drop 29 = .ok (.getfield 126, 3) := by decide +kernel
theorem dX8_drop_32 : decode cX8_drop 32 = .ok (.iload_n 1, 1) := by decide +kernel
theorem dX8_drop_33 : decode cX8_drop 33 = .ok (.invokevirtual 136, 3) := by decide +kernel
theorem dX8_drop_36 : decode cX8_drop 36 = .ok (.aload_n 0, 1) := by decide +kernel
theorem dX8_drop_37 : decode cX8_drop 37 = .ok (.aload_n 0, 1) := by decide +kernel
theorem dX8_drop_38 : decode cX8_drop 38 = .ok (.getfield 36, 3) := by decide +kernel
theorem dX8_drop_41 : decode cX8_drop 41 = .ok (.getfield 126, 3) := by decide +kernel
theorem dX8_drop_44 : decode cX8_drop 44 = .ok (.invokevirtual 130, 3) := by decide +kernel
theorem dX8_drop_47 : decode cX8_drop 47 = .ok (.invokevirtual 74, 3) := by decide +kernel
theorem dX8_drop_50 : decode cX8_drop 50 = .ok (.ireturn, 1) := by decide +kernel
theorem dX8_keeps_0 : decode cX8_keeps 0 = .ok (.aload_n 0, 1) := by decide +kernel
theorem dX8_keeps_1 : decode cX8_keeps 1 = .ok (.aload_n 0, 1) := by decide +kernel
theorem dX8_keeps_2 : decode cX8_keeps 2 = .ok (.getfield 10, 3) := by decide +kernel
theorem dX8_keeps_5 : decode cX8_keeps 5 = .ok (.aload_n 0, 1) := by decide +kernel
theorem dX8_keeps_6 : decode cX8_keeps 6 = .ok (.getfield 26, 3) := by decide +kernel
theorem dX8_keeps_9 : decode cX8_keeps 9 = .ok (.invokevirtual 106, 3) := by decide +kernel
theorem dX8_keeps_12 : decode cX8_keeps 12 = .ok (.ifCond .eq 20, 3) := by decide +kernel
theorem dX8_keeps_15 : decode cX8_keeps 15 = .ok (.aload_n 0, 1) := by decide +kernel
theorem dX8_keeps_16 : decode cX8_keeps 16 = .ok (.getfield 36, 3) := by decide +kernel
theorem dX8_keeps_19 : decode cX8_keeps 19 = .ok (.getfield 126, 3) := by decide +kernel
theorem dX8_keeps_22 : decode cX8_keeps 22 = .ok (.aload_n 0, 1) := by decide +kernel
theorem dX8_keeps_23 : decode cX8_keeps 23 = .ok (.getfield 26, 3) := by decide +kernel
theorem dX8_keeps_26 : decode cX8_keeps 26 = .ok (.invokevirtual 137, 3) := by decide +kernel
theorem dX8_keeps_29 : decode cX8_keeps 29 = .ok (.goto 5, 3) := by decide +kernel
theorem dX8_keeps_32 : decode cX8_keeps 32 = .ok (.bipush (-6), 2) := by decide +kernel
theorem dX8_keeps_34 : decode cX8_keeps 34 = .ok (.ireturn, 1) := by decide +kernel
theorem dX8_mend_0 : decode cX8_mend 0 = .ok (.iload_n 1, 1) := by decide +kernel
theorem dX8_mend_1 : decode cX8_mend 1 = .ok (.ifCond .lt 8, 3) := by decide +kernel
theorem dX8_mend_4 : decode cX8_mend 4 = .ok (.iload_n 1, 1) := by decide +kernel
theorem dX8_mend_5 : decode cX8_mend 5 = .ok (.iconst 2, 1) := by decide +kernel
theorem dX8_mend_6 : decode cX8_mend 6 = .ok (.if_icmp .le 9, 3) := by decide +kernel
theorem dX8_mend_9 : decode cX8_mend 9 = .ok (.aload_n 0, 1) := by decide +kernel
theorem dX8_mend_10 : decode cX8_mend 10 = .ok (.iconst (-1), 1) := by decide +kernel
theorem dX8_mend_11 : decode cX8_mend 11 = .ok (.invokevirtual 62, 3) := by decide +kernel
theorem dX8_mend_14 : decode cX8_mend 14 = .ok (.ireturn, 1) := by decide +kernel
theorem dX8_mend_15 : decode cX8_mend 15 = .ok (.iload_n 1, 1) := by decide +kernel
theorem dX8_mend_16 : decode cX8_mend 16 = .ok (.ifCond .eq 21, 3) := by decide +kernel
theorem dX8_mend_19 : decode cX8_mend 19 = .ok (.iload_n 2, 1) := by decide +kernel
theorem dX8_mend_20 : decode cX8_mend 20 = .ok (.iconst (-1), 1) := by decide +kernel
theorem dX8_mend_21 : decode cX8_mend 21 = .ok (.if_icmp .eq 16, 3) := by decide +kernel
theorem dX8_mend_24 : decode cX8_mend 24 = .ok (.iload_n 2, 1) := by decide +kernel
theorem dX8_mend_25 : decode cX8_mend 25 = .ok (.invokestatic 90, 3) := by decide +kernel
theorem dX8_mend_28 : decode cX8_mend 28 = .ok (.ifCond .ne 9, 3) := by decide +kernel
theorem dX8_mend_31 : decode cX8_mend 31 = .ok (.aload_n 0, 1) := by decide +kernel
theorem dX8_mend_32 : decode cX8_mend 32 = .ok (.iconst (-1), 1) := by decide +kernel
theorem dX8_mend_33 : decode cX8_mend 33 = .ok (.invokevirtual 62, 3) := by decide +kernel
theorem dX8_mend_36 : decode cX8_mend 36 = .ok (.ireturn, 1) := by decide +kernel
theorem dX8_mend_37 : decode cX8_mend 37 = .ok (.aload_n 0, 1) := by decide +kernel
theorem dX8_mend_38 : decode cX8_mend 38 = .ok (.getfield 36, 3) := by decide +kernel
theorem dX8_mend_41 : decode cX8_mend 41 = .ok (.iload_n 1, 1) := by decide +kernel
theorem dX8_mend_42 : decode cX8_mend 42 = .ok (.iload_n 2, 1) := by decide +kernel
theorem dX8_mend_43 : decode cX8_mend 43 = .ok (.invokevirtual 141, 3) := by decide +kernel
theorem dX8_mend_46 : decode cX8_mend 46 = .ok (.aload_n 0, 1) := by decide +kernel
theorem dX8_mend_47 : decode cX8_mend 47 = .ok (.getfield 43, 3) := by decide +kernel
theorem dX8_mend_50 : decode cX8_mend 50 = .ok (.aload_n 0, 1) := by decide +kernel
theorem dX8_mend_51 : decode cX8_mend 51 = .ok (.getfield 10, 3) := by decide +kernel
theorem dX8_mend_54 : decode cX8_mend 54 = .ok (.invokevirtual 144, 3) := by decide +kernel
theorem dX8_mend_57 : decode cX8_mend 57 = .ok (.iconst 0, 1) := by decide +kernel
theorem dX8_mend_58 : decode cX8_mend 58 = .ok (.istore_n 3, 1) := by decide +kernel
theorem dX8_mend_59 : decode cX8_mend 59 = .ok (.iload_n 3, 1) := by decide +kernel
theorem dX8_mend_60 : decode cX8_mend 60 = .ok (.iconst 2, 1) := by decide +kernel
theorem dX8_mend_61 : decode cX8_mend 61 = .ok (.if_icmp .gt 47, 3) := by decide +kernel
theorem dX8_mend_64 : decode cX8_mend 64 = .ok (.aload_n 0, 1) := by decide +kernel
theorem dX8_mend_65 : decode cX8_mend 65 = .ok (.getfield 43, 3) := by decide +kernel
theorem dX8_mend_68 : decode cX8_mend 68 = .ok (.invokevirtual 148, 3) := by decide +kernel
theorem dX8_mend_71 : decode cX8_mend 71 = .ok (.ifCond .ne 37, 3) := by decide +kernel
theorem dX8_mend_74 : decode cX8_mend 74 = .ok (.aload_n 0, 1) := by decide +kernel
theorem dX8_mend_75 : decode cX8_mend 75 = .ok (.getfield 43, 3) := by decide +kernel
theorem dX8_mend_78 : decode cX8_mend 78 = .ok (.iload_n 3, 1) := by decide +kernel
theorem dX8_mend_79 : decode cX8_mend 79 = .ok (.invokevirtual 149, 3) := by decide +kernel
theorem dX8_mend_82 : decode cX8_mend 82 = .ok (.aload_n 0, 1) := by decide +kernel
theorem dX8_mend_83 : decode cX8_mend 83 = .ok (.getfield 50, 3) := by decide +kernel
theorem dX8_mend_86 : decode cX8_mend 86 = .ok (.aload_n 0, 1) := by decide +kernel
theorem dX8_mend_87 : decode cX8_mend 87 = .ok (.getfield 10, 3) := by decide +kernel
theorem dX8_mend_90 : decode cX8_mend 90 = .ok (.iload_n 3, 1) := by decide +kernel
theorem dX8_mend_91 : decode cX8_mend 91 = .ok (.aload_n 0, 1) := by decide +kernel
theorem dX8_mend_92 : decode cX8_mend 92 = .ok (.getfield 36, 3) := by decide +kernel
theorem dX8_mend_95 : decode cX8_mend 95 = .ok (.aload_n 0, 1) := by decide +kernel
theorem dX8_mend_96 : decode cX8_mend 96 = .ok (.getfield 43, 3) := by decide +kernel
theorem dX8_mend_99 : decode cX8_mend 99 = .ok (.invokevirtual 152, 3) := by decide +kernel
theorem dX8_mend_102 : decode cX8_mend 102 = .ok (.iinc 3 1, 3) := by decide +kernel
theorem dX8_mend_105 : decode cX8_mend 105 = .ok (.goto (-46), 3) := by decide +kernel
theorem dX8_mend_108 : decode cX8_mend 108 = .ok (.aload_n 0, 1) := by decide +kernel
theorem dX8_mend_109 : decode cX8_mend 109 = .ok (.getfield 43, 3) := by decide +kernel
theorem dX8_mend_112 : decode cX8_mend 112 = .ok (.invokevirtual 156, 3) := by decide +kernel
theorem dX8_mend_115 : decode cX8_mend 115 = .ok (.ifCond .eq 17, 3) := by decide +kernel
theorem dX8_mend_118 : decode cX8_mend 118 = .ok (.aload_n 0, 1) := by decide +kernel
theorem dX8_mend_119 : decode cX8_mend 119 = .ok (.getfield 43, 3) := by decide +kernel
theorem dX8_mend_122 : decode cX8_mend 122 = .ok (.invokevirtual 160, 3) := by decide +kernel
theorem dX8_mend_125 : decode cX8_mend 125 = .ok (.aload_n 0, 1) := by decide +kernel
theorem dX8_mend_126 : decode cX8_mend 126 = .ok (.bipush (-5), 2) := by decide +kernel
theorem dX8_mend_128 : decode cX8_mend 128 = .ok (.invokevirtual 62, 3) := by decide +kernel
theorem dX8_mend_131 : decode cX8_mend 131 = .ok (.ireturn, 1) := by decide +kernel
theorem dX8_mend_132 : decode cX8_mend 132 = .ok (.aload_n 0, 1) := by decide +kernel
theorem dX8_mend_133 : decode cX8_mend 133 = .ok (.getfield 43, 3) := by decide +kernel
theorem dX8_mend_136 : decode cX8_mend 136 = .ok (.invokevirtual 148, 3) := by decide +kernel
theorem dX8_mend_139 : decode cX8_mend 139 = .ok (.ifCond .ne 12, 3) := by decide +kernel
theorem dX8_mend_142 : decode cX8_mend 142 = .ok (.aload_n 0, 1) := by decide +kernel
theorem dX8_mend_143 : decode cX8_mend 143 = .ok (.bipush (-6), 2) := by decide +kernel
theorem dX8_mend_145 : decode cX8_mend 145 = .ok (.invokevirtual 62, 3) := by decide +kernel
theorem dX8_mend_148 : decode cX8_mend 148 = .ok (.goto 14, 3) := by decide +kernel
theorem dX8_mend_151 : decode cX8_mend 151 = .ok (.aload_n 0, 1) := by decide +kernel
theorem dX8_mend_152 : decode cX8_mend 152 = .ok (.aload_n 0, 1) := by decide +kernel
theorem dX8_mend_153 : decode cX8_mend 153 = .ok (.getfield 43, 3) := by decide +kernel
theorem dX8_mend_156 : decode cX8_mend 156 = .ok (.invokevirtual 148, 3) := by decide +kernel
theorem dX8_mend_159 : decode cX8_mend 159 = .ok (.invokevirtual 74, 3) := by decide +kernel
theorem dX8_mend_162 : decode cX8_mend 162 = .ok (.ireturn, 1) := by decide +kernel
theorem dX8_changes_0 : decode cX8_changes 0 = .ok (.aload_n 0, 1) := by decide +kernel
theorem dX8_changes_1 : decode cX8_changes 1 = .ok (.getfield 43, 3) := by decide +kernel
theorem dX8_changes_4 : decode cX8_changes 4 = .ok (.invokevirtual 148, 3) := by decide +kernel
theorem dX8_changes_7 : decode cX8_changes 7 = .ok (.ifCond .ne 7, 3) := by decide +kernel
theorem dX8_changes_10 : decode cX8_changes 10 = .ok (.iconst (-1), 1) := by decide +kernel
theorem dX8_changes_11 : decode cX8_changes 11 = .ok (.goto 10, 3) := by decide +kernel
theorem dX8_changes_14 : decode cX8_changes 14 = .ok (.aload_n 0, 1) := by decide +kernel
theorem dX8_changes_15 : decode cX8_changes 15 = .ok (.getfield 43, 3) := by decide +kernel
theorem dX8_changes_18 : decode cX8_changes 18 = .ok (.invokevirtual 163, 3) := by decide +kernel
theorem dX8_changes_21 : decode cX8_changes 21 = .ok (.ireturn, 1) := by decide +kernel
theorem dX8_mending_0 : decode cX8_mending 0 = .ok (.aload_n 0, 1) := by decide +kernel
theorem dX8_mending_1 : decode cX8_mending 1 = .ok (.getfield 43, 3) := by decide +kernel
theorem dX8_mending_4 : decode cX8_mending 4 = .ok (.iload_n 1, 1) := by decide +kernel
theorem dX8_mending_5 : decode cX8_mending 5 = .ok (.invokevirtual 166, 3) := by decide +kernel
theorem dX8_mending_8 : decode cX8_mending 8 = .ok (.ifCond .ne 5, 3) := by decide +kernel
theorem dX8_mending_11 : decode cX8_mending 11 = .ok (.iconst (-1), 1) := by decide +kernel
theorem dX8_mending_12 : decode cX8_mending 12 = .ok (.ireturn, 1) := by decide +kernel
theorem dX8_mending_13 : decode cX8_mending 13 = .ok (.iload_n 2, 1) := by decide +kernel
theorem dX8_mending_14 : decode cX8_mending 14 = .ok (.iconst (-1), 1) := by decide +kernel
theorem dX8_mending_15 : decode cX8_mending 15 = .ok (.if_icmp .ne 14, 3) := by decide +kernel
theorem dX8_mending_18 : decode cX8_mending 18 = .ok (.aload_n 0, 1) := by decide +kernel
theorem dX8_mending_19 : decode cX8_mending 19 = .ok (.getfield 43, 3) := by decide +kernel
theorem dX8_mending_22 : decode cX8_mending 22 = .ok (.iload_n 1, 1) := by decide +kernel
theorem dX8_mending_23 : decode cX8_mending 23 = .ok (.invokevirtual 169, 3) := by decide +kernel
theorem dX8_mending_26 : decode cX8_mending 26 = .ok (.goto 12, 3) := by decide +kernel
theorem dX8_mending_29 : decode cX8_mending 29 = .ok (.aload_n 0, 1) := by decide +kernel
theorem dX8_mending_30 : decode cX8_mending 30 = .ok (.getfield 43, 3) := by decide +kernel
theorem dX8_mending_33 : decode cX8_mending 33 = .ok (.iload_n 1, 1) := by decide +kernel
theorem dX8_mending_34 : decode cX8_mending 34 = .ok (.iload_n 2, 1) := by decide +kernel
theorem dX8_mending_35 : decode cX8_mending 35 = .ok (.invokevirtual 172, 3) := by decide +kernel
theorem dX8_mending_38 : decode cX8_mending 38 = .ok (.ireturn, 1) := by decide +kernel
theorem dX8_rank_0 : decode cX8_rank 0 = .ok (.aload_n 0, 1) := by decide +kernel
theorem dX8_rank_1 : decode cX8_rank 1 = .ok (.getfield 43, 3) := by decide +kernel
theorem dX8_rank_4 : decode cX8_rank 4 = .ok (.iload_n 1, 1) := by decide +kernel
theorem dX8_rank_5 : decode cX8_rank 5 = .ok (.invokevirtual 176, 3) := by decide +kernel
theorem dX8_rank_8 : decode cX8_rank 8 = .ok (.ireturn, 1) := by decide +kernel
theorem dX8_apart_0 : decode cX8_apart 0 = .ok (.aload_n 0, 1) := by decide +kernel
theorem dX8_apart_1 : decode cX8_apart 1 = .ok (.getfield 43, 3) := by decide +kernel
theorem dX8_apart_4 : decode cX8_apart 4 = .ok (.iload_n 1, 1) := by decide +kernel
theorem dX8_apart_5 : decode cX8_apart 5 = .ok (.invokevirtual 166, 3) := by decide +kernel
theorem dX8_apart_8 : decode cX8_apart 8 = .ok (.ifCond .eq 14, 3) := by decide +kernel
theorem dX8_apart_11 : decode cX8_apart 11 = .ok (.aload_n 0, 1) := by decide +kernel
theorem dX8_apart_12 : decode cX8_apart 12 = .ok (.getfield 43, 3) := by decide +kernel
theorem dX8_apart_15 : decode cX8_apart 15 = .ok (.iload_n 2, 1) := by decide +kernel
theorem dX8_apart_16 : decode cX8_apart 16 = .ok (.invokevirtual 166, 3) := by decide +kernel
theorem dX8_apart_19 : decode cX8_apart 19 = .ok (.ifCond .ne 6, 3) := by decide +kernel
theorem dX8_apart_22 : decode cX8_apart 22 = .ok (.bipush (-2), 2) := by decide +kernel
theorem dX8_apart_24 : decode cX8_apart 24 = .ok (.ireturn, 1) := by decide +kernel
theorem dX8_apart_25 : decode cX8_apart 25 = .ok (.aload_n 0, 1) := by decide +kernel
theorem dX8_apart_26 : decode cX8_apart 26 = .ok (.getfield 43, 3) := by decide +kernel
theorem dX8_apart_29 : decode cX8_apart 29 = .ok (.iload_n 1, 1) := by decide +kernel
theorem dX8_apart_30 : decode cX8_apart 30 = .ok (.aload_n 0, 1) := by decide +kernel
theorem dX8_apart_31 : decode cX8_apart 31 = .ok (.getfield 16, 3) := by decide +kernel
theorem dX8_apart_34 : decode cX8_apart 34 = .ok (.invokevirtual 179, 3) := by decide +kernel
theorem dX8_apart_37 : decode cX8_apart 37 = .ok (.aload_n 0, 1) := by decide +kernel
theorem dX8_apart_38 : decode cX8_apart 38 = .ok (.aload_n 0, 1) := by decide +kernel
theorem dX8_apart_39 : decode cX8_apart 39 = .ok (.getfield 16, 3) := by decide +kernel
theorem dX8_apart_42 : decode cX8_apart 42 = .ok (.aload_n 0, 1) := by decide +kernel
theorem dX8_apart_43 : decode cX8_apart 43 = .ok (.getfield 26, 3) := by decide +kernel
theorem dX8_apart_46 : decode cX8_apart 46 = .ok (.invokevirtual 106, 3) := by decide +kernel
theorem dX8_apart_49 : decode cX8_apart 49 = .ok (.istore_n 3, 1) := by decide +kernel
theorem dX8_apart_50 : decode cX8_apart 50 = .ok (.aload_n 0, 1) := by decide +kernel
theorem dX8_apart_51 : decode cX8_apart 51 = .ok (.getfield 43, 3) := by decide +kernel
theorem dX8_apart_54 : decode cX8_apart 54 = .ok (.iload_n 2, 1) := by decide +kernel
theorem dX8_apart_55 : decode cX8_apart 55 = .ok (.aload_n 0, 1) := by decide +kernel
theorem dX8_apart_56 : decode cX8_apart 56 = .ok (.getfield 16, 3) := by decide +kernel
theorem dX8_apart_59 : decode cX8_apart 59 = .ok (.invokevirtual 179, 3) := by decide +kernel
theorem dX8_apart_62 : decode cX8_apart 62 = .ok (.aload_n 0, 1) := by decide +kernel
theorem dX8_apart_63 : decode cX8_apart 63 = .ok (.aload_n 0, 1) := by decide +kernel
theorem dX8_apart_64 : decode cX8_apart 64 = .ok (.getfield 16, 3) := by decide +kernel
theorem dX8_apart_67 : decode cX8_apart 67 = .ok (.aload_n 0, 1) := by decide +kernel
theorem dX8_apart_68 : decode cX8_apart 68 = .ok (.getfield 30, 3) := by decide +kernel
theorem dX8_apart_71 : decode cX8_apart 71 = .ok (.invokevirtual 106, 3) := by decide +kernel
theorem dX8_apart_74 : decode cX8_apart 74 = .ok (.ifCond .eq 11, 3) := by decide +kernel
theorem dX8_apart_77 : decode cX8_apart 77 = .ok (.iload_n 3, 1) := by decide +kernel
theorem dX8_apart_78 : decode cX8_apart 78 = .ok (.ifCond .eq 7, 3) := by decide +kernel
theorem dX8_apart_81 : decode cX8_apart 81 = .ok (.iconst 1, 1) := by decide +kernel
theorem dX8_apart_82 : decode cX8_apart 82 = .ok (.goto 4, 3) := by decide +kernel
theorem dX8_apart_85 : decode cX8_apart 85 = .ok (.iconst 0, 1) := by decide +kernel
