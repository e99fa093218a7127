theorem d11_init_0 : decode y11_init.2.1 0 = .ok (.aload_n 0, 1) := by decide +kernel
theorem d11_init_1 : decode y11_init.2.1 1 = .ok (.invokespecial 1, 3) := by decide +kernel
theorem d11_init_4 : decode y11_init.2.1 4 = .ok (.aload_n 0, 1) := by decide +kernel
theorem d11_init_5 : decode y11_init.2.1 5 = .ok (.bipush 48, 2) := by decide +kernel
theorem d11_init_7 : decode y11_init.2.1 7 = .ok (.newarray .int, 2) := by decide +kernel
theorem d11_init_9 : decode y11_init.2.1 9 = .ok (.putfield 7, 3) := by decide +kernel
theorem d11_init_12 : decode y11_init.2.1 12 = .ok (.aload_n 0, 1) := by decide +kernel
theorem d11_init_13 : decode y11_init.2.1 13 = .ok (.bipush 48, 2) := by decide +kernel
theorem d11_init_15 : decode y11_init.2.1 15 = .ok (.newarray .int, 2) := by decide +kernel
theorem d11_init_17 : decode y11_init.2.1 17 = .ok (.putfield 13, 3) := by decide +kernel
theorem d11_init_20 : decode y11_init.2.1 20 = .ok (.aload_n 0, 1) := by decide +kernel
theorem d11_init_21 : decode y11_init.2.1 21 = .ok (.bipush 48, 2) := by decide +kernel
theorem d11_init_23 : decode y11_init.2.1 23 = .ok (.newarray .int, 2) := by decide +kernel
theorem d11_init_25 : decode y11_init.2.1 25 = .ok (.putfield 16, 3) := by decide +kernel
theorem d11_init_28 : decode y11_init.2.1 28 = .ok (.aload_n 0, 1) := by decide +kernel
theorem d11_init_29 : decode y11_init.2.1 29 = .ok (.bipush 48, 2) := by decide +kernel
theorem d11_init_31 : decode y11_init.2.1 31 = .ok (.newarray .int, 2) := by decide +kernel
theorem d11_init_33 : decode y11_init.2.1 33 = .ok (.putfield 19, 3) := by decide +kernel
theorem d11_init_36 : decode y11_init.2.1 36 = .ok (.aload_n 0, 1) := by decide +kernel
theorem d11_init_37 : decode y11_init.2.1 37 = .ok (.bipush 48, 2) := by decide +kernel
theorem d11_init_39 : decode y11_init.2.1 39 = .ok (.newarray .int, 2) := by decide +kernel
theorem d11_init_41 : decode y11_init.2.1 41 = .ok (.putfield 22, 3) := by decide +kernel
theorem d11_init_44 : decode y11_init.2.1 44 = .ok (.aload_n 0, 1) := by decide +kernel
theorem d11_init_45 : decode y11_init.2.1 45 = .ok (.sipush 20000, 3) := by decide +kernel
theorem d11_init_48 : decode y11_init.2.1 48 = .ok (.newarray .int, 2) := by decide +kernel
theorem d11_init_50 : decode y11_init.2.1 50 = .ok (.putfield 25, 3) := by decide +kernel
theorem d11_init_53 : decode y11_init.2.1 53 = .ok (.aload_n 0, 1) := by decide +kernel
theorem d11_init_54 : decode y11_init.2.1 54 = .ok (.bipush (-2), 2) := by decide +kernel
theorem d11_init_56 : decode y11_init.2.1 56 = .ok (.putfield 28, 3) := by decide +kernel
theorem d11_init_59 : decode y11_init.2.1 59 = .ok (.aload_n 0, 1) := by decide +kernel
theorem d11_init_60 : decode y11_init.2.1 60 = .ok (.sipush 1024, 3) := by decide +kernel
theorem d11_init_63 : decode y11_init.2.1 63 = .ok (.newarray .byte, 2) := by decide +kernel
theorem d11_init_65 : decode y11_init.2.1 65 = .ok (.putfield 32, 3) := by decide +kernel
theorem d11_init_68 : decode y11_init.2.1 68 = .ok (.aload_n 0, 1) := by decide +kernel
theorem d11_init_69 : decode y11_init.2.1 69 = .ok (.sipush 1200, 3) := by decide +kernel
theorem d11_init_72 : decode y11_init.2.1 72 = .ok (.newarray .int, 2) := by decide +kernel
theorem d11_init_74 : decode y11_init.2.1 74 = .ok (.putfield 36, 3) := by decide +kernel
theorem d11_init_77 : decode y11_init.2.1 77 = .ok (.aload_n 0, 1) := by decide +kernel
theorem d11_init_78 : decode y11_init.2.1 78 = .ok (.sipush 1200, 3) := by decide +kernel
theorem d11_init_81 : decode y11_init.2.1 81 = .ok (.newarray .int, 2) := by decide +kernel
theorem d11_init_83 : decode y11_init.2.1 83 = .ok (.putfield 39, 3) := by decide +kernel
theorem d11_init_86 : decode y11_init.2.1 86 = .ok (.aload_n 0, 1) := by decide +kernel
theorem d11_init_87 : decode y11_init.2.1 87 = .ok (.sipush 1200, 3) := by decide +kernel
theorem d11_init_90 : decode y11_init.2.1 90 = .ok (.newarray .int, 2) := by decide +kernel
theorem d11_init_92 : decode y11_init.2.1 92 = .ok (.putfield 42, 3) := by decide +kernel
theorem d11_init_95 : decode y11_init.2.1 95 = .ok (.aload_n 0, 1) := by decide +kernel
theorem d11_init_96 : decode y11_init.2.1 96 = .ok (.sipush 1200, 3) := by decide +kernel
theorem d11_init_99 : decode y11_init.2.1 99 = .ok (.newarray .long, 2) := by decide +kernel
theorem d11_init_101 : decode y11_init.2.1 101 = .ok (.putfield 45, 3) := by decide +kernel
theorem d11_init_104 : decode y11_init.2.1 104 = .ok (.aload_n 0, 1) := by decide +kernel
theorem d11_init_105 : decode y11_init.2.1 105 = .ok (.sipush 4800, 3) := by decide +kernel
theorem d11_init_108 : decode y11_init.2.1 108 = .ok (.newarray .long, 2) := by decide +kernel
theorem d11_init_110 : decode y11_init.2.1 110 = .ok (.putfield 49, 3) := by decide +kernel
theorem d11_init_113 : decode y11_init.2.1 113 = .ok (.aload_n 0, 1) := by decide +kernel
theorem d11_init_114 : decode y11_init.2.1 114 = .ok (.bipush 48, 2) := by decide +kernel
theorem d11_init_116 : decode y11_init.2.1 116 = .ok (.newarray .boolean, 2) := by decide +kernel
theorem d11_init_118 : decode y11_init.2.1 118 = .ok (.putfield 52, 3) := by decide +kernel
theorem d11_init_121 : decode y11_init.2.1 121 = .ok (.aload_n 0, 1) := by decide +kernel
theorem d11_init_122 : decode y11_init.2.1 122 = .ok (.bipush 96, 2) := by decide +kernel
theorem d11_init_124 : decode y11_init.2.1 124 = .ok (.newarray .boolean, 2) := by decide +kernel
theorem d11_init_126 : decode y11_init.2.1 126 = .ok (.putfield 56, 3) := by decide +kernel
theorem d11_init_129 : decode y11_init.2.1 129 = .ok (.aload_n 0, 1) := by decide +kernel
theorem d11_init_130 : decode y11_init.2.1 130 = .ok (.bipush 100, 2) := by decide +kernel
theorem d11_init_132 : decode y11_init.2.1 132 = .ok (.newarray .long, 2) := by decide +kernel
theorem d11_init_134 : decode y11_init.2.1 134 = .ok (.putfield 59, 3) := by decide +kernel
theorem d11_init_137 : decode y11_init.2.1 137 = .ok (.aload_n 0, 1) := by decide +kernel
theorem d11_init_138 : decode y11_init.2.1 138 = .ok (.sipush 130, 3) := by decide +kernel
theorem d11_init_141 : decode y11_init.2.1 141 = .ok (.newarray .long, 2) := by decide +kernel
theorem d11_init_143 : decode y11_init.2.1 143 = .ok (.putfield 62, 3) := by decide +kernel
theorem d11_init_146 : decode y11_init.2.1 146 = .ok (.aload_n 0, 1) := by decide +kernel
theorem d11_init_147 : decode y11_init.2.1 147 = .ok (.bipush 12, 2) := by decide +kernel
theorem d11_init_149 : decode y11_init.2.1 149 = .ok (.newarray .int, 2) := by decide +kernel
theorem d11_init_151 : decode y11_init.2.1 151 = .ok (.putfield 65, 3) := by decide +kernel
theorem d11_init_154 : decode y11_init.2.1 154 = .ok (.aload_n 0, 1) := by decide +kernel
theorem d11_init_155 : decode y11_init.2.1 155 = .ok (.sipush 4800, 3) := by decide +kernel
theorem d11_init_158 : decode y11_init.2.1 158 = .ok (.newarray .boolean, 2) := by decide +kernel
theorem d11_init_160 : decode y11_init.2.1 160 = .ok (.putfield 68, 3) := by decide +kernel
theorem d11_init_163 : decode y11_init.2.1 163 = .ok (.aload_n 0, 1) := by decide +kernel
theorem d11_init_164 : decode y11_init.2.1 164 = .ok (.sipush 20000, 3) := by decide +kernel
theorem d11_init_167 : decode y11_init.2.1 167 = .ok (.newarray .int, 2) := by decide +kernel
theorem d11_init_169 : decode y11_init.2.1 169 = .ok (.putfield 71, 3) := by decide +kernel
theorem d11_init_172 : decode y11_init.2.1 172 = .ok (.aload_n 0, 1) := by decide +kernel
theorem d11_init_173 : decode y11_init.2.1 173 = .ok (.bipush 48, 2) := by decide +kernel
theorem d11_init_175 : decode y11_init.2.1 175 = .ok (.newarray .int, 2) := by decide +kernel
theorem d11_init_177 : decode y11_init.2.1 177 = .ok (.putfield 74, 3) := by decide +kernel
theorem d11_init_180 : decode y11_init.2.1 180 = .ok (.aload_n 0, 1) := by decide +kernel
theorem d11_init_181 : decode y11_init.2.1 181 = .ok (.bipush 48, 2) := by decide +kernel
theorem d11_init_183 : decode y11_init.2.1 183 = .ok (.newarray .int, 2) := by decide +kernel
theorem d11_init_185 : decode y11_init.2.1 185 = .ok (.putfield 77, 3) := by decide +kernel
theorem d11_init_188 : decode y11_init.2.1 188 = .ok (.aload_n 0, 1) := by decide +kernel
theorem d11_init_189 : decode y11_init.2.1 189 = .ok (.bipush 8, 2) := by decide +kernel
theorem d11_init_191 : decode y11_init.2.1 191 = .ok (.newarray .int, 2) := by decide +kernel
theorem d11_init_193 : decode y11_init.2.1 193 = .ok (.putfield 80, 3) := by decide +kernel
theorem d11_init_196 : decode y11_init.2.1 196 = .ok (.aload_n 0, 1) := by decide +kernel
theorem d11_init_197 : decode y11_init.2.1 197 = .ok (.bipush 32, 2) := by decide +kernel
theorem d11_init_199 : decode y11_init.2.1 199 = .ok (.newarray .int, 2) := by decide +kernel
theorem d11_init_201 : decode y11_init.2.1 201 = .ok (.putfield 83, 3) := by decide +kernel
theorem d11_init_204 : decode y11_init.2.1 204 = .ok (.aload_n 0, 1) := by decide +kernel
theorem d11_init_205 : decode y11_init.2.1 205 = .ok (.iload_n 1, 1) := by decide +kernel
theorem d11_init_206 : decode y11_init.2.1 206 = .ok (.ifCond .ge 7, 3) := by decide +kernel
theorem d11_init_209 : decode y11_init.2.1 209 = .ok (.iconst 0, 1) := by decide +kernel
theorem d11_init_210 : decode y11_init.2.1 210 = .ok (.goto 17, 3) := by decide +kernel
theorem d11_init_213 : decode y11_init.2.1 213 = .ok (.iload_n 1, 1) := by decide +kernel
theorem d11_init_214 : decode y11_init.2.1 214 = .ok (.sipush 1024, 3) := by decide +kernel
theorem d11_init_217 : decode y11_init.2.1 217 = .ok (.if_icmp .le 9, 3) := by decide +kernel
theorem d11_init_220 : decode y11_init.2.1 220 = .ok (.sipush 1024, 3) := by decide +kernel
theorem d11_init_223 : decode y11_init.2.1 223 = .ok (.goto 4, 3) := by decide +kernel
theorem d11_init_226 : decode y11_init.2.1 226 = .ok (.iload_n 1, 1) := by decide +kernel
theorem d11_init_227 : decode y11_init.2.1 227 = .ok (.putfield 86, 3) := by decide +kernel
theorem d11_init_230 : decode y11_init.2.1 230 = .ok (.return_, 1) := by decide +kernel
theorem d11_instruction_0 : decode y11_instruction.2.1 0 = .ok (.iload_n 1, 1) := by decide +kernel
theorem d11_instruction_1 : decode y11_instruction.2.1 1 = .ok (.ifCond .lt 9, 3) := by decide +kernel
theorem d11_instruction_4 : decode y11_instruction.2.1 4 = .ok (.iload_n 1, 1) := by decide +kernel
theorem d11_instruction_5 : decode y11_instruction.2.1 5 = .ok (.bipush 16, 2) := by decide +kernel
theorem d11_instruction_7 : decode y11_instruction.2.1 7 = .ok (.if_icmp .le 5, 3) := by decide +kernel
theorem d11_instruction_10 : decode y11_instruction.2.1 10 = .ok (.iconst (-1), 1) := by decide +kernel
theorem d11_instruction_11 : decode y11_instruction.2.1 11 = .ok (.ireturn, 1) := by decide +kernel
theorem d11_instruction_12 : decode y11_instruction.2.1 12 = .ok (.aload_n 0, 1) := by decide +kernel
theorem d11_instruction_13 : decode y11_instruction.2.1 13 = .ok (.getfield 89, 3) := by decide +kernel
theorem d11_instruction_16 : decode y11_instruction.2.1 16 = .ok (.bipush 48, 2) := by decide +kernel
theorem d11_instruction_18 : decode y11_instruction.2.1 18 = .ok (.if_icmp .ne 6, 3) := by decide +kernel
theorem d11_instruction_21 : decode y11_instruction.2.1 21 = .ok (.bipush (-3), 2) := by decide +kernel
theorem d11_instruction_23 : decode y11_instruction.2.1 23 = .ok (.ireturn, 1) := by decide +kernel
theorem d11_instruction_24 : decode y11_instruction.2.1 24 = .ok (.aload_n 0, 1) := by decide +kernel
theorem d11_instruction_25 : decode y11_instruction.2.1 25 = .ok (.getfield 7, 3) := by decide +kernel
theorem d11_instruction_28 : decode y11_instruction.2.1 28 = .ok (.aload_n 0, 1) := by decide +kernel
theorem d11_instruction_29 : decode y11_instruction.2.1 29 = .ok (.getfield 89, 3) := by decide +kernel
theorem d11_instruction_32 : decode y11_instruction.2.1 32 = .ok (.iload_n 1, 1) := by decide +kernel
theorem d11_instruction_33 : decode y11_instruction.2.1 33 = .ok (.iastore, 1) := by decide +kernel
theorem d11_instruction_34 : decode y11_instruction.2.1 34 = .ok (.aload_n 0, 1) := by decide +kernel
theorem d11_instruction_35 : decode y11_instruction.2.1 35 = .ok (.getfield 13, 3) := by decide +kernel
theorem d11_instruction_38 : decode y11_instruction.2.1 38 = .ok (.aload_n 0, 1) := by decide +kernel
theorem d11_instruction_39 : decode y11_instruction.2.1 39 = .ok (.getfield 89, 3) := by decide +kernel
theorem d11_instruction_42 : decode y11_instruction.2.1 42 = .ok (.iload_n 2, 1) := by decide +kernel
theorem d11_instruction_43 : decode y11_instruction.2.1 43 = .ok (.iastore, 1) := by decide +kernel
theorem d11_instruction_44 : decode y11_instruction.2.1 44 = .ok (.aload_n 0, 1) := by decide +kernel
theorem d11_instruction_45 : decode y11_instruction.2.1 45 = .ok (.getfield 16, 3) := by decide +kernel
theorem d11_instruction_48 : decode y11_instruction.2.1 48 = .ok (.aload_n 0, 1) := by decide +kernel
theorem d11_instruction_49 : decode y11_instruction.2.1 49 = .ok (.getfield 89, 3) := by decide +kernel
theorem d11_instruction_52 : decode y11_instruction.2.1 52 = .ok (.iload_n 3, 1) := by decide +kernel
theorem d11_instruction_53 : decode y11_instruction.2.1 53 = .ok (.iastore, 1) := by decide +kernel
theorem d11_instruction_54 : decode y11_instruction.2.1 54 = .ok (.aload_n 0, 1) := by decide +kernel
theorem d11_instruction_55 : decode y11_instruction.2.1 55 = .ok (.getfield 19, 3) := by decide +kernel
theorem d11_instruction_58 : decode y11_instruction.2.1 58 = .ok (.aload_n 0, 1) := by decide +kernel
theorem d11_instruction_59 : decode y11_instruction.2.1 59 = .ok (.getfield 89, 3) := by decide +kernel
theorem d11_instruction_62 : decode y11_instruction.2.1 62 = .ok (.iload 4, 2) := by decide +kernel
theorem d11_instruction_64 : decode y11_instruction.2.1 64 = .ok (.iastore, 1) := by decide +kernel
theorem d11_instruction_65 : decode y11_instruction.2.1 65 = .ok (.aload_n 0, 1) := by decide +kernel
theorem d11_instruction_66 : decode y11_instruction.2.1 66 = .ok (.getfield 22, 3) := by decide +kernel
theorem d11_instruction_69 : decode y11_instruction.2.1 69 = .ok (.aload_n 0, 1) := by decide +kernel
theorem d11_instruction_70 : decode y11_instruction.2.1 70 = .ok (.getfield 89, 3) := by decide +kernel
theorem d11_instruction_73 : decode y11_instruction.2.1 73 = .ok (.iload 5, 2) := by decide +kernel
theorem d11_instruction_75 : decode y11_instruction.2.1 75 = .ok (.iastore, 1) := by decide +kernel
theorem d11_instruction_76 : decode y11_instruction.2.1 76 = .ok (.aload_n 0, 1) := by decide +kernel
theorem d11_instruction_77 : decode y11_instruction.2.1 77 = .ok (.dup, 1) := by decide +kernel
theorem d11_instruction_78 : decode y11_instruction.2.1 78 = .ok (.getfield 89, 3) := by decide +kernel
theorem d11_instruction_81 : decode y11_instruction.2.1 81 = .ok (.iconst 1, 1) := by decide +kernel
theorem d11_instruction_82 : decode y11_instruction.2.1 82 = .ok (.iadd, 1) := by decide +kernel
theorem d11_instruction_83 : decode y11_instruction.2.1 83 = .ok (.putfield 89, 3) := by decide +kernel
theorem d11_instruction_86 : decode y11_instruction.2.1 86 = .ok (.aload_n 0, 1) := by decide +kernel
theorem d11_instruction_87 : decode y11_instruction.2.1 87 = .ok (.getfield 89, 3) := by decide +kernel
theorem d11_instruction_90 : decode y11_instruction.2.1 90 = .ok (.ireturn, 1) := by decide +kernel
theorem d11_clear_0 : decode y11_clear.2.1 0 = .ok (.aload_n 0, 1) := by decide +kernel
theorem d11_clear_1 : decode y11_clear.2.1 1 = .ok (.getfield 89, 3) := by decide +kernel
theorem d11_clear_4 : decode y11_clear.2.1 4 = .ok (.istore_n 1, 1) := by decide +kernel
theorem d11_clear_5 : decode y11_clear.2.1 5 = .ok (.aload_n 0, 1) := by decide +kernel
theorem d11_clear_6 : decode y11_clear.2.1 6 = .ok (.iconst 0, 1) := by decide +kernel
theorem d11_clear_7 : decode y11_clear.2.1 7 = .ok (.putfield 89, 3) := by decide +kernel
theorem d11_clear_10 : decode y11_clear.2.1 10 = .ok (.iload_n 1, 1) := by decide +kernel
theorem d11_clear_11 : decode y11_clear.2.1 11 = .ok (.ireturn, 1) := by decide +kernel
theorem d11_prove_0 : decode y11_prove.2.1 0 = .ok (.aload_n 0, 1) := by decide +kernel
theorem d11_prove_1 : decode y11_prove.2.1 1 = .ok (.iconst 0, 1) := by decide +kernel
theorem d11_prove_2 : decode y11_prove.2.1 2 = .ok (.putfield 217, 3) := by decide +kernel
theorem d11_prove_5 : decode y11_prove.2.1 5 = .ok (.aload_n 0, 1) := by decide +kernel
theorem d11_prove_6 : decode y11_prove.2.1 6 = .ok (.aload_n 0, 1) := by decide +kernel
theorem d11_prove_7 : decode y11_prove.2.1 7 = .ok (.invokevirtual 220, 3) := by decide +kernel
theorem d11_prove_10 : decode y11_prove.2.1 10 = .ok (.putfield 28, 3) := by decide +kernel
theorem d11_prove_13 : decode y11_prove.2.1 13 = .ok (.aload_n 0, 1) := by decide +kernel
theorem d11_prove_14 : decode y11_prove.2.1 14 = .ok (.getfield 28, 3) := by decide +kernel
theorem d11_prove_17 : decode y11_prove.2.1 17 = .ok (.ifCond .lt 5, 3) := by decide +kernel
theorem d11_prove_20 : decode y11_prove.2.1 20 = .ok (.iconst (-1), 1) := by decide +kernel
theorem d11_prove_21 : decode y11_prove.2.1 21 = .ok (.ireturn, 1) := by decide +kernel
theorem d11_prove_22 : decode y11_prove.2.1 22 = .ok (.aload_n 0, 1) := by decide +kernel
theorem d11_prove_23 : decode y11_prove.2.1 23 = .ok (.bipush (-2), 2) := by decide +kernel
theorem d11_prove_25 : decode y11_prove.2.1 25 = .ok (.putfield 28, 3) := by decide +kernel
theorem d11_prove_28 : decode y11_prove.2.1 28 = .ok (.aload_n 0, 1) := by decide +kernel
theorem d11_prove_29 : decode y11_prove.2.1 29 = .ok (.invokevirtual 223, 3) := by decide +kernel
theorem d11_prove_32 : decode y11_prove.2.1 32 = .ok (.iconst 0, 1) := by decide +kernel
theorem d11_prove_33 : decode y11_prove.2.1 33 = .ok (.istore_n 1, 1) := by decide +kernel
theorem d11_prove_34 : decode y11_prove.2.1 34 = .ok (.iload_n 1, 1) := by decide +kernel
theorem d11_prove_35 : decode y11_prove.2.1 35 = .ok (.bipush 100, 2) := by decide +kernel
theorem d11_prove_37 : decode y11_prove.2.1 37 = .ok (.aload_n 0, 1) := by decide +kernel
theorem d11_prove_38 : decode y11_prove.2.1 38 = .ok (.getfield 89, 3) := by decide +kernel
theorem d11_prove_41 : decode y11_prove.2.1 41 = .ok (.imul, 1) := by decide +kernel
theorem d11_prove_42 : decode y11_prove.2.1 42 = .ok (.if_icmp .ge 16, 3) := by decide +kernel
theorem d11_prove_45 : decode y11_prove.2.1 45 = .ok (.aload_n 0, 1) := by decide +kernel
theorem d11_prove_46 : decode y11_prove.2.1 46 = .ok (.getfield 68, 3) := by decide +kernel
theorem d11_prove_49 : decode y11_prove.2.1 49 = .ok (.iload_n 1, 1) := by decide +kernel
theorem d11_prove_50 : decode y11_prove.2.1 50 = .ok (.iconst 0, 1) := by decide +kernel
theorem d11_prove_51 : decode y11_prove.2.1 51 = .ok (.bastore, 1) := by decide +kernel
theorem d11_prove_52 : decode y11_prove.2.1 52 = .ok (.iinc 1 1, 3) := by decide +kernel
theorem d11_prove_55 : decode y11_prove.2.1 55 = .ok (.goto (-21), 3) := by decide +kernel
theorem d11_prove_58 : decode y11_prove.2.1 58 = .ok (.aload_n 0, 1) := by decide +kernel
theorem d11_prove_59 : decode y11_prove.2.1 59 = .ok (.getfield 89, 3) := by decide +kernel
theorem d11_prove_62 : decode y11_prove.2.1 62 = .ok (.iconst 1, 1) := by decide +kernel
theorem d11_prove_63 : decode y11_prove.2.1 63 = .ok (.isub, 1) := by decide +kernel
theorem d11_prove_64 : decode y11_prove.2.1 64 = .ok (.istore_n 1, 1) := by decide +kernel
theorem d11_prove_65 : decode y11_prove.2.1 65 = .ok (.iload_n 1, 1) := by decide +kernel
theorem d11_prove_66 : decode y11_prove.2.1 66 = .ok (.ifCond .lt 37, 3) := by decide +kernel
theorem d11_prove_69 : decode y11_prove.2.1 69 = .ok (.aload_n 0, 1) := by decide +kernel
theorem d11_prove_70 : decode y11_prove.2.1 70 = .ok (.getfield 52, 3) := by decide +kernel
theorem d11_prove_73 : decode y11_prove.2.1 73 = .ok (.iload_n 1, 1) := by decide +kernel
theorem d11_prove_74 : decode y11_prove.2.1 74 = .ok (.baload, 1) := by decide +kernel
theorem d11_prove_75 : decode y11_prove.2.1 75 = .ok (.ifCond .eq 22, 3) := by decide +kernel
theorem d11_prove_78 : decode y11_prove.2.1 78 = .ok (.aload_n 0, 1) := by decide +kernel
theorem d11_prove_79 : decode y11_prove.2.1 79 = .ok (.iload_n 1, 1) := by decide +kernel
theorem d11_prove_80 : decode y11_prove.2.1 80 = .ok (.invokevirtual 226, 3) := by decide +kernel
theorem d11_prove_83 : decode y11_prove.2.1 83 = .ok (.ifCond .eq 6, 3) := by decide +kernel
theorem d11_prove_86 : decode y11_prove.2.1 86 = .ok (.goto 11, 3) := by decide +kernel
theorem d11_prove_89 : decode y11_prove.2.1 89 = .ok (.aload_n 0, 1) := by decide +kernel
theorem d11_prove_90 : decode y11_prove.2.1 90 = .ok (.iload_n 1, 1) := by decide +kernel
theorem d11_prove_91 : decode y11_prove.2.1 91 = .ok (.putfield 28, 3) := by decide +kernel
theorem d11_prove_94 : decode y11_prove.2.1 94 = .ok (.bipush (-2), 2) := by decide +kernel
theorem d11_prove_96 : decode y11_prove.2.1 96 = .ok (.ireturn, 1) := by decide +kernel
theorem d11_prove_97 : decode y11_prove.2.1 97 = .ok (.iinc 1 (-1), 3) := by decide +kernel
theorem d11_prove_100 : decode y11_prove.2.1 100 = .ok (.goto (-35), 3) := by decide +kernel
theorem d11_prove_103 : decode y11_prove.2.1 103 = .ok (.aload_n 0, 1) := by decide +kernel
theorem d11_prove_104 : decode y11_prove.2.1 104 = .ok (.iconst 0, 1) := by decide +kernel
theorem d11_prove_105 : decode y11_prove.2.1 105 = .ok (.putfield 205, 3) := by decide +kernel
theorem d11_prove_108 : decode y11_prove.2.1 108 = .ok (.aload_n 0, 1) := by decide +kernel
theorem d11_prove_109 : decode y11_prove.2.1 109 = .ok (.invokevirtual 229, 3) := by decide +kernel
theorem d11_prove_112 : decode y11_prove.2.1 112 = .ok (.aload_n 0, 1) := by decide +kernel
theorem d11_prove_113 : decode y11_prove.2.1 113 = .ok (.invokevirtual 148, 3) := by decide +kernel
theorem d11_prove_116 : decode y11_prove.2.1 116 = .ok (.iconst 0, 1) := by decide +kernel
theorem d11_prove_117 : decode y11_prove.2.1 117 = .ok (.istore_n 1, 1) := by decide +kernel
theorem d11_prove_118 : decode y11_prove.2.1 118 = .ok (.iload_n 1, 1) := by decide +kernel
theorem d11_prove_119 : decode y11_prove.2.1 119 = .ok (.bipush 100, 2) := by decide +kernel
theorem d11_prove_121 : decode y11_prove.2.1 121 = .ok (.if_icmp .ge 45, 3) := by decide +kernel
theorem d11_prove_124 : decode y11_prove.2.1 124 = .ok (.aload_n 0, 1) := by decide +kernel
theorem d11_prove_125 : decode y11_prove.2.1 125 = .ok (.getfield 68, 3) := by decide +kernel
theorem d11_prove_128 : decode y11_prove.2.1 128 = .ok (.iload_n 1, 1) := by decide +kernel
theorem d11_prove_129 : decode y11_prove.2.1 129 = .ok (.baload, 1) := by decide +kernel
theorem d11_prove_130 : decode y11_prove.2.1 130 = .ok (.ifCond .ne 6, 3) := by decide +kernel
theorem d11_prove_133 : decode y11_prove.2.1 133 = .ok (.goto 27, 3) := by decide +kernel
theorem d11_prove_136 : decode y11_prove.2.1 136 = .ok (.aload_n 0, 1) := by decide +kernel
theorem d11_prove_137 : decode y11_prove.2.1 137 = .ok (.iload_n 1, 1) := by decide +kernel
theorem d11_prove_138 : decode y11_prove.2.1 138 = .ok (.bipush 10, 2) := by decide +kernel
theorem d11_prove_140 : decode y11_prove.2.1 140 = .ok (.idiv, 1) := by decide +kernel
theorem d11_prove_141 : decode y11_prove.2.1 141 = .ok (.iload_n 1, 1) := by decide +kernel
theorem d11_prove_142 : decode y11_prove.2.1 142 = .ok (.bipush 10, 2) := by decide +kernel
theorem d11_prove_144 : decode y11_prove.2.1 144 = .ok (.irem, 1) := by decide +kernel
theorem d11_prove_145 : decode y11_prove.2.1 145 = .ok (.aload_n 0, 1) := by decide +kernel
theorem d11_prove_146 : decode y11_prove.2.1 146 = .ok (.getfield 49, 3) := by decide +kernel
theorem d11_prove_149 : decode y11_prove.2.1 149 = .ok (.iload_n 1, 1) := by decide +kernel
theorem d11_prove_150 : decode y11_prove.2.1 150 = .ok (.laload, 1) := by decide +kernel
theorem d11_prove_151 : decode y11_prove.2.1 151 = .ok (.invokevirtual 173, 3) := by decide +kernel
theorem d11_prove_154 : decode y11_prove.2.1 154 = .ok (.pop, 1) := by decide +kernel
theorem d11_prove_155 : decode y11_prove.2.1 155 = .ok (.aload_n 0, 1) := by decide +kernel
theorem d11_prove_156 : decode y11_prove.2.1 156 = .ok (.iconst (-1), 1) := by decide +kernel
theorem d11_prove_157 : decode y11_prove.2.1 157 = .ok (.invokevirtual 214, 3) := by decide +kernel
theorem d11_prove_160 : decode y11_prove.2.1 160 = .ok (.iinc 1 1, 3) := by decide +kernel
theorem d11_prove_163 : decode y11_prove.2.1 163 = .ok (.goto (-45), 3) := by decide +kernel
theorem d11_prove_166 : decode y11_prove.2.1 166 = .ok (.iconst 0, 1) := by decide +kernel
theorem d11_prove_167 : decode y11_prove.2.1 167 = .ok (.istore_n 1, 1) := by decide +kernel
theorem d11_prove_168 : decode y11_prove.2.1 168 = .ok (.iload_n 1, 1) := by decide +kernel
theorem d11_prove_169 : decode y11_prove.2.1 169 = .ok (.aload_n 0, 1) := by decide +kernel
theorem d11_prove_170 : decode y11_prove.2.1 170 = .ok (.getfield 89, 3) := by decide +kernel
theorem d11_prove_173 : decode y11_prove.2.1 173 = .ok (.if_icmp .ge 23, 3) := by decide +kernel
theorem d11_prove_176 : decode y11_prove.2.1 176 = .ok (.aload_n 0, 1) := by decide +kernel
theorem d11_prove_177 : decode y11_prove.2.1 177 = .ok (.getfield 52, 3) := by decide +kernel
theorem d11_prove_180 : decode y11_prove.2.1 180 = .ok (.iload_n 1, 1) := by decide +kernel
theorem d11_prove_181 : decode y11_prove.2.1 181 = .ok (.baload, 1) := by decide +kernel
theorem d11_prove_182 : decode y11_prove.2.1 182 = .ok (.ifCond .eq 8, 3) := by decide +kernel
theorem d11_prove_185 : decode y11_prove.2.1 185 = .ok (.aload_n 0, 1) := by decide +kernel
theorem d11_prove_186 : decode y11_prove.2.1 186 = .ok (.iload_n 1, 1) := by decide +kernel
theorem d11_prove_187 : decode y11_prove.2.1 187 = .ok (.invokevirtual 232, 3) := by decide +kernel
theorem d11_prove_190 : decode y11_prove.2.1 190 = .ok (.iinc 1 1, 3) := by decide +kernel
theorem d11_prove_193 : decode y11_prove.2.1 193 = .ok (.goto (-25), 3) := by decide +kernel
theorem d11_prove_196 : decode y11_prove.2.1 196 = .ok (.aload_n 0, 1) := by decide +kernel
theorem d11_prove_197 : decode y11_prove.2.1 197 = .ok (.getfield 205, 3) := by decide +kernel
theorem d11_prove_200 : decode y11_prove.2.1 200 = .ok (.sipush 20000, 3) := by decide +kernel
theorem d11_prove_203 : decode y11_prove.2.1 203 = .ok (.if_icmp .le 14, 3) := by decide +kernel
theorem d11_prove_206 : decode y11_prove.2.1 206 = .ok (.aload_n 0, 1) := by decide +kernel
theorem d11_prove_207 : decode y11_prove.2.1 207 = .ok (.aload_n 0, 1) := by decide +kernel
theorem d11_prove_208 : decode y11_prove.2.1 208 = .ok (.getfield 89, 3) := by decide +kernel
theorem d11_prove_211 : decode y11_prove.2.1 211 = .ok (.putfield 28, 3) := by decide +kernel
theorem d11_prove_214 : decode y11_prove.2.1 214 = .ok (.bipush (-2), 2) := by decide +kernel
theorem d11_prove_216 : decode y11_prove.2.1 216 = .ok (.ireturn, 1) := by decide +kernel
theorem d11_prove_217 : decode y11_prove.2.1 217 = .ok (.iconst 0, 1) := by decide +kernel
theorem d11_prove_218 : decode y11_prove.2.1 218 = .ok (.istore_n 1, 1) := by decide +kernel
theorem d11_prove_219 : decode y11_prove.2.1 219 = .ok (.iload_n 1, 1) := by decide +kernel
theorem d11_prove_220 : decode y11_prove.2.1 220 = .ok (.aload_n 0, 1) := by decide +kernel
theorem d11_prove_221 : decode y11_prove.2.1 221 = .ok (.getfield 205, 3) := by decide +kernel
theorem d11_prove_224 : decode y11_prove.2.1 224 = .ok (.if_icmp .ge 21, 3) := by decide +kernel
theorem d11_prove_227 : decode y11_prove.2.1 227 = .ok (.aload_n 0, 1) := by decide +kernel
theorem d11_prove_228 : decode y11_prove.2.1 228 = .ok (.getfield 25, 3) := by decide +kernel
theorem d11_prove_231 : decode y11_prove.2.1 231 = .ok (.iload_n 1, 1) := by decide +kernel
theorem d11_prove_232 : decode y11_prove.2.1 232 = .ok (.aload_n 0, 1) := by decide +kernel
theorem d11_prove_233 : decode y11_prove.2.1 233 = .ok (.getfield 71, 3) := by decide +kernel
theorem d11_prove_236 : decode y11_prove.2.1 236 = .ok (.iload_n 1, 1) := by decide +kernel
theorem d11_prove_237 : decode y11_prove.2.1 237 = .ok (.iaload, 1) := by decide +kernel
theorem d11_prove_238 : decode y11_prove.2.1 238 = .ok (.iastore, 1) := by decide +kernel
theorem d11_prove_239 : decode y11_prove.2.1 239 = .ok (.iinc 1 1, 3) := by decide +kernel
theorem d11_prove_242 : decode y11_prove.2.1 242 = .ok (.goto (-23), 3) := by decide +kernel
theorem d11_prove_245 : decode y11_prove.2.1 245 = .ok (.aload_n 0, 1) := by decide +kernel
theorem d11_prove_246 : decode y11_prove.2.1 246 = .ok (.aload_n 0, 1) := by decide +kernel
theorem d11_prove_247 : decode y11_prove.2.1 247 = .ok (.getfield 205, 3) := by decide +kernel
theorem d11_prove_250 : decode y11_prove.2.1 250 = .ok (.putfield 217, 3) := by decide +kernel
theorem d11_prove_253 : decode y11_prove.2.1 253 = .ok (.aload_n 0, 1) := by decide +kernel
theorem d11_prove_254 : decode y11_prove.2.1 254 = .ok (.getfield 217, 3) := by decide +kernel
theorem d11_prove_257 : decode y11_prove.2.1 257 = .ok (.ireturn, 1) := by decide +kernel
theorem d11_wrong_0 : decode y11_wrong.2.1 0 = .ok (.iconst 0, 1) := by decide +kernel
theorem d11_wrong_1 : decode y11_wrong.2.1 1 = .ok (.istore_n 1, 1) := by decide +kernel
theorem d11_wrong_2 : decode y11_wrong.2.1 2 = .ok (.iload_n 1, 1) := by decide +kernel
theorem d11_wrong_3 : decode y11_wrong.2.1 3 = .ok (.aload_n 0, 1) := by decide +kernel
theorem d11_wrong_4 : decode y11_wrong.2.1 4 = .ok (.getfield 89, 3) := by decide +kernel
theorem d11_wrong_7 : decode y11_wrong.2.1 7 = .ok (.if_icmp .ge 176, 3) := by decide +kernel
theorem d11_wrong_10 : decode y11_wrong.2.1 10 = .ok (.aload_n 0, 1) := by decide +kernel
theorem d11_wrong_11 : decode y11_wrong.2.1 11 = .ok (.getfield 13, 3) := by decide +kernel
theorem d11_wrong_14 : decode y11_wrong.2.1 14 = .ok (.iload_n 1, 1) := by decide +kernel
theorem d11_wrong_15 : decode y11_wrong.2.1 15 = .ok (.iaload, 1) := by decide +kernel
theorem d11_wrong_16 : decode y11_wrong.2.1 16 = .ok (.ifCond .lt 38, 3) := by decide +kernel
theorem d11_wrong_19 : decode y11_wrong.2.1 19 = .ok (.aload_n 0, 1) := by decide +kernel
theorem d11_wrong_20 : decode y11_wrong.2.1 20 = .ok (.getfield 13, 3) := by decide +kernel
theorem d11_wrong_23 : decode y11_wrong.2.1 23 = .ok (.iload_n 1, 1) := by decide +kernel
theorem d11_wrong_24 : decode y11_wrong.2.1 24 = .ok (.iaload, 1) := by decide +kernel
theorem d11_wrong_25 : decode y11_wrong.2.1 25 = .ok (.bipush 8, 2) := by decide +kernel
theorem d11_wrong_27 : decode y11_wrong.2.1 27 = .ok (.if_icmp .ge 27, 3) := by decide +kernel
theorem d11_wrong_30 : decode y11_wrong.2.1 30 = .ok (.aload_n 0, 1) := by decide +kernel
theorem d11_wrong_31 : decode y11_wrong.2.1 31 = .ok (.getfield 16, 3) := by decide +kernel
theorem d11_wrong_34 : decode y11_wrong.2.1 34 = .ok (.iload_n 1, 1) := by decide +kernel
theorem d11_wrong_35 : decode y11_wrong.2.1 35 = .ok (.iaload, 1) := by decide +kernel
theorem d11_wrong_36 : decode y11_wrong.2.1 36 = .ok (.ifCond .lt 18, 3) := by decide +kernel
theorem d11_wrong_39 : decode y11_wrong.2.1 39 = .ok (.aload_n 0, 1) := by decide +kernel
theorem d11_wrong_40 : decode y11_wrong.2.1 40 = .ok (.getfield 16, 3) := by decide +kernel
theorem d11_wrong_43 : decode y11_wrong.2.1 43 = .ok (.iload_n 1, 1) := by decide +kernel
theorem d11_wrong_44 : decode y11_wrong.2.1 44 = .ok (.iaload, 1) := by decide +kernel
theorem d11_wrong_45 : decode y11_wrong.2.1 45 = .ok (.bipush 8, 2) := by decide +kernel
theorem d11_wrong_47 : decode y11_wrong.2.1 47 = .ok (.if_icmp .ge 7, 3) := by decide +kernel
theorem d11_wrong_50 : decode y11_wrong.2.1 50 = .ok (.iconst 1, 1) := by decide +kernel
theorem d11_wrong_51 : decode y11_wrong.2.1 51 = .ok (.goto 4, 3) := by decide +kernel
theorem d11_wrong_54 : decode y11_wrong.2.1 54 = .ok (.iconst 0, 1) := by decide +kernel
theorem d11_wrong_55 : decode y11_wrong.2.1 55 = .ok (.istore_n 2, 1) := by decide +kernel
theorem d11_wrong_56 : decode y11_wrong.2.1 56 = .ok (.aload_n 0, 1) := by decide +kernel
theorem d11_wrong_57 : decode y11_wrong.2.1 57 = .ok (.getfield 7, 3) := by decide +kernel
theorem d11_wrong_60 : decode y11_wrong.2.1 60 = .ok (.iload_n 1, 1) := by decide +kernel
theorem d11_wrong_61 : decode y11_wrong.2.1 61 = .ok (.iaload, 1) := by decide +kernel
theorem d11_wrong_62 : decode y11_wrong.2.1 62 = .ok (.bipush 6, 2) := by decide +kernel
theorem d11_wrong_64 : decode y11_wrong.2.1 64 = .ok (.if_icmp .ne 22, 3) := by decide +kernel
theorem d11_wrong_67 : decode y11_wrong.2.1 67 = .ok (.iload_n 2, 1) := by decide +kernel
theorem d11_wrong_68 : decode y11_wrong.2.1 68 = .ok (.ifCond .eq 16, 3) := by decide +kernel
theorem d11_wrong_71 : decode y11_wrong.2.1 71 = .ok (.aload_n 0, 1) := by decide +kernel
theorem d11_wrong_72 : decode y11_wrong.2.1 72 = .ok (.getfield 19, 3) := by decide +kernel
theorem d11_wrong_75 : decode y11_wrong.2.1 75 = .ok (.iload_n 1, 1) := by decide +kernel
theorem d11_wrong_76 : decode y11_wrong.2.1 76 = .ok (.iaload, 1) := by decide +kernel
theorem d11_wrong_77 : decode y11_wrong.2.1 77 = .ok (.ifCond .lt 7, 3) := by decide +kernel
theorem d11_wrong_80 : decode y11_wrong.2.1 80 = .ok (.iconst 1, 1) := by decide +kernel
theorem d11_wrong_81 : decode y11_wrong.2.1 81 = .ok (.goto 4, 3) := by decide +kernel
theorem d11_wrong_84 : decode y11_wrong.2.1 84 = .ok (.iconst 0, 1) := by decide +kernel
theorem d11_wrong_85 : decode y11_wrong.2.1 85 = .ok (.istore_n 2, 1) := by decide +kernel
theorem d11_wrong_86 : decode y11_wrong.2.1 86 = .ok (.aload_n 0, 1) := by decide +kernel
theorem d11_wrong_87 : decode y11_wrong.2.1 87 = .ok (.getfield 7, 3) := by decide +kernel
theorem d11_wrong_90 : decode y11_wrong.2.1 90 = .ok (.iload_n 1, 1) := by decide +kernel
theorem d11_wrong_91 : decode y11_wrong.2.1 91 = .ok (.iaload, 1) := by decide +kernel
theorem d11_wrong_92 : decode y11_wrong.2.1 92 = .ok (.bipush 7, 2) := by decide +kernel
theorem d11_wrong_94 : decode y11_wrong.2.1 94 = .ok (.if_icmp .ne 33, 3) := by decide +kernel
theorem d11_wrong_97 : decode y11_wrong.2.1 97 = .ok (.iload_n 2, 1) := by decide +kernel
theorem d11_wrong_98 : decode y11_wrong.2.1 98 = .ok (.ifCond .eq 27, 3) := by decide +kernel
theorem d11_wrong_101 : decode y11_wrong.2.1 101 = .ok (.aload_n 0, 1) := by decide +kernel
theorem d11_wrong_102 : decode y11_wrong.2.1 102 = .ok (.getfield 19, 3) := by decide +kernel
theorem d11_wrong_105 : decode y11_wrong.2.1 105 = .ok (.iload_n 1, 1) := by decide +kernel
theorem d11_wrong_106 : decode y11_wrong.2.1 106 = .ok (.iaload, 1) := by decide +kernel
theorem d11_wrong_107 : decode y11_wrong.2.1 107 = .ok (.ifCond .le 18, 3) := by decide +kernel
theorem d11_wrong_110 : decode y11_wrong.2.1 110 = .ok (.aload_n 0, 1) := by decide +kernel
theorem d11_wrong_111 : decode y11_wrong.2.1 111 = .ok (.getfield 19, 3) := by decide +kernel
theorem d11_wrong_114 : decode y11_wrong.2.1 114 = .ok (.iload_n 1, 1) := by decide +kernel
theorem d11_wrong_115 : decode y11_wrong.2.1 115 = .ok (.iaload, 1) := by decide +kernel
theorem d11_wrong_116 : decode y11_wrong.2.1 116 = .ok (.bipush 32, 2) := by decide +kernel
theorem d11_wrong_118 : decode y11_wrong.2.1 118 = .ok (.if_icmp .ge 7, 3) := by decide +kernel
theorem d11_wrong_121 : decode y11_wrong.2.1 121 = .ok (.iconst 1, 1) := by decide +kernel
theorem d11_wrong_122 : decode y11_wrong.2.1 122 = .ok (.goto 4, 3) := by decide +kernel
theorem d11_wrong_125 : decode y11_wrong.2.1 125 = .ok (.iconst 0, 1) := by decide +kernel
theorem d11_wrong_126 : decode y11_wrong.2.1 126 = .ok (.istore_n 2, 1) := by decide +kernel
theorem d11_wrong_127 : decode y11_wrong.2.1 127 = .ok (.aload_n 0, 1) := by decide +kernel
theorem d11_wrong_128 : decode y11_wrong.2.1 128 = .ok (.getfield 7, 3) := by decide +kernel
theorem d11_wrong_131 : decode y11_wrong.2.1 131 = .ok (.iload_n 1, 1) := by decide +kernel
theorem d11_wrong_132 : decode y11_wrong.2.1 132 = .ok (.iaload, 1) := by decide +kernel
theorem d11_wrong_133 : decode y11_wrong.2.1 133 = .ok (.bipush 12, 2) := by decide +kernel
theorem d11_wrong_135 : decode y11_wrong.2.1 135 = .ok (.if_icmp .le 36, 3) := by decide +kernel
theorem d11_wrong_138 : decode y11_wrong.2.1 138 = .ok (.iload_n 2, 1) := by decide +kernel
theorem d11_wrong_139 : decode y11_wrong.2.1 139 = .ok (.ifCond .eq 30, 3) := by decide +kernel
theorem d11_wrong_142 : decode y11_wrong.2.1 142 = .ok (.aload_n 0, 1) := by decide +kernel
theorem d11_wrong_143 : decode y11_wrong.2.1 143 = .ok (.getfield 22, 3) := by decide +kernel
theorem d11_wrong_146 : decode y11_wrong.2.1 146 = .ok (.iload_n 1, 1) := by decide +kernel
theorem d11_wrong_147 : decode y11_wrong.2.1 147 = .ok (.iaload, 1) := by decide +kernel
theorem d11_wrong_148 : decode y11_wrong.2.1 148 = .ok (.iload_n 1, 1) := by decide +kernel
theorem d11_wrong_149 : decode y11_wrong.2.1 149 = .ok (.if_icmp .le 20, 3) := by decide +kernel
theorem d11_wrong_152 : decode y11_wrong.2.1 152 = .ok (.aload_n 0, 1) := by decide +kernel
theorem d11_wrong_153 : decode y11_wrong.2.1 153 = .ok (.getfield 22, 3) := by decide +kernel
theorem d11_wrong_156 : decode y11_wrong.2.1 156 = .ok (.iload_n 1, 1) := by decide +kernel
theorem d11_wrong_157 : decode y11_wrong.2.1 157 = .ok (.iaload, 1) := by decide +kernel
theorem d11_wrong_158 : decode y11_wrong.2.1 158 = .ok (.aload_n 0, 1) := by decide +kernel
theorem d11_wrong_159 : decode y11_wrong.2.1 159 = .ok (.getfield 89, 3) := by decide +kernel
theorem d11_wrong_162 : decode y11_wrong.2.1 162 = .ok (.if_icmp .ge 7, 3) := by decide +kernel
theorem d11_wrong_165 : decode y11_wrong.2.1 165 = .ok (.iconst 1, 1) := by decide +kernel
theorem d11_wrong_166 : decode y11_wrong.2.1 166 = .ok (.goto 4, 3) := by decide +kernel
theorem d11_wrong_169 : decode y11_wrong.2.1 169 = .ok (.iconst 0, 1) := by decide +kernel
theorem d11_wrong_170 : decode y11_wrong.2.1 170 = .ok (.istore_n 2, 1) := by decide +kernel
theorem d11_wrong_171 : decode y11_wrong.2.1 171 = .ok (.iload_n 2, 1) := by decide +kernel
theorem d11_wrong_172 : decode y11_wrong.2.1 172 = .ok (.ifCond .ne 5, 3) := by decide +kernel
theorem d11_wrong_175 : decode y11_wrong.2.1 175 = .ok (.iload_n 1, 1) := by decide +kernel
theorem d11_wrong_176 : decode y11_wrong.2.1 176 = .ok (.ireturn, 1) := by decide +kernel
theorem d11_wrong_177 : decode y11_wrong.2.1 177 = .ok (.iinc 1 1, 3) := by decide +kernel
theorem d11_wrong_180 : decode y11_wrong.2.1 180 = .ok (.goto (-178), 3) := by decide +kernel
theorem d11_wrong_183 : decode y11_wrong.2.1 183 = .ok (.aload_n 0, 1) := by decide +kernel
theorem d11_wrong_184 : decode y11_wrong.2.1 184 = .ok (.getfield 89, 3) := by decide +kernel
theorem d11_wrong_187 : decode y11_wrong.2.1 187 = .ok (.ifCond .le 21, 3) := by decide +kernel
theorem d11_wrong_190 : decode y11_wrong.2.1 190 = .ok (.aload_n 0, 1) := by decide +kernel
theorem d11_wrong_191 : decode y11_wrong.2.1 191 = .ok (.getfield 7, 3) := by decide +kernel
theorem d11_wrong_194 : decode y11_wrong.2.1 194 = .ok (.aload_n 0, 1) := by decide +kernel
theorem d11_wrong_195 : decode y11_wrong.2.1 195 = .ok (.getfield 89, 3) := by decide +kernel
theorem d11_wrong_198 : decode y11_wrong.2.1 198 = .ok (.iconst 1, 1) := by decide +kernel
theorem d11_wrong_199 : decode y11_wrong.2.1 199 = .ok (.isub, 1) := by decide +kernel
theorem d11_wrong_200 : decode y11_wrong.2.1 200 = .ok (.iaload, 1) := by decide +kernel
theorem d11_wrong_201 : decode y11_wrong.2.1 201 = .ok (.ifCond .ne 7, 3) := by decide +kernel
theorem d11_wrong_204 : decode y11_wrong.2.1 204 = .ok (.iconst (-1), 1) := by decide +kernel
theorem d11_wrong_205 : decode y11_wrong.2.1 205 = .ok (.goto 7, 3) := by decide +kernel
theorem d11_wrong_208 : decode y11_wrong.2.1 208 = .ok (.aload_n 0, 1) := by decide +kernel
theorem d11_wrong_209 : decode y11_wrong.2.1 209 = .ok (.getfield 89, 3) := by decide +kernel
theorem d11_wrong_212 : decode y11_wrong.2.1 212 = .ok (.ireturn, 1) := by decide +kernel
theorem d11_findBounds_0 : decode y11_findBounds.2.1 0 = .ok (.iconst 0, 1) := by decide +kernel
theorem d11_findBounds_1 : decode y11_findBounds.2.1 1 = .ok (.istore_n 1, 1) := by decide +kernel
theorem d11_findBounds_2 : decode y11_findBounds.2.1 2 = .ok (.iload_n 1, 1) := by decide +kernel
theorem d11_findBounds_3 : decode y11_findBounds.2.1 3 = .ok (.aload_n 0, 1) := by decide +kernel
theorem d11_findBounds_4 : decode y11_findBounds.2.1 4 = .ok (.getfield 89, 3) := by decide +kernel
theorem d11_findBounds_7 : decode y11_findBounds.2.1 7 = .ok (.if_icmp .ge 16, 3) := by decide +kernel
theorem d11_findBounds_10 : decode y11_findBounds.2.1 10 = .ok (.aload_n 0, 1) := by decide +kernel
theorem d11_findBounds_11 : decode y11_findBounds.2.1 11 = .ok (.getfield 52, 3) := by decide +kernel
theorem d11_findBounds_14 : decode y11_findBounds.2.1 14 = .ok (.iload_n 1, 1) := by decide +kernel
theorem d11_findBounds_15 : decode y11_findBounds.2.1 15 = .ok (.iconst 0, 1) := by decide +kernel
theorem d11_findBounds_16 : decode y11_findBounds.2.1 16 = .ok (.bastore, 1) := by decide +kernel
theorem d11_findBounds_17 : decode y11_findBounds.2.1 17 = .ok (.iinc 1 1, 3) := by decide +kernel
theorem d11_findBounds_20 : decode y11_findBounds.2.1 20 = .ok (.goto (-18), 3) := by decide +kernel
theorem d11_findBounds_23 : decode y11_findBounds.2.1 23 = .ok (.aload_n 0, 1) := by decide +kernel
theorem d11_findBounds_24 : decode y11_findBounds.2.1 24 = .ok (.invokevirtual 148, 3) := by decide +kernel
theorem d11_findBounds_27 : decode y11_findBounds.2.1 27 = .ok (.aload_n 0, 1) := by decide +kernel
theorem d11_findBounds_28 : decode y11_findBounds.2.1 28 = .ok (.invokevirtual 151, 3) := by decide +kernel
theorem d11_findBounds_31 : decode y11_findBounds.2.1 31 = .ok (.pop, 1) := by decide +kernel
theorem d11_findBounds_32 : decode y11_findBounds.2.1 32 = .ok (.aload_n 0, 1) := by decide +kernel
theorem d11_findBounds_33 : decode y11_findBounds.2.1 33 = .ok (.iconst 0, 1) := by decide +kernel
theorem d11_findBounds_34 : decode y11_findBounds.2.1 34 = .ok (.invokevirtual 155, 3) := by decide +kernel
theorem d11_findBounds_37 : decode y11_findBounds.2.1 37 = .ok (.iconst 0, 1) := by decide +kernel
theorem d11_findBounds_38 : decode y11_findBounds.2.1 38 = .ok (.istore_n 1, 1) := by decide +kernel
theorem d11_findBounds_39 : decode y11_findBounds.2.1 39 = .ok (.iload_n 1, 1) := by decide +kernel
theorem d11_findBounds_40 : decode y11_findBounds.2.1 40 = .ok (.aload_n 0, 1) := by decide +kernel
theorem d11_findBounds_41 : decode y11_findBounds.2.1 41 = .ok (.getfield 89, 3) := by decide +kernel
theorem d11_findBounds_44 : decode y11_findBounds.2.1 44 = .ok (.if_icmp .ge 91, 3) := by decide +kernel
theorem d11_findBounds_47 : decode y11_findBounds.2.1 47 = .ok (.iconst 0, 1) := by decide +kernel
theorem d11_findBounds_48 : decode y11_findBounds.2.1 48 = .ok (.istore_n 2, 1) := by decide +kernel
theorem d11_findBounds_49 : decode y11_findBounds.2.1 49 = .ok (.iload_n 2, 1) := by decide +kernel
theorem d11_findBounds_50 : decode y11_findBounds.2.1 50 = .ok (.iconst 2, 1) := by decide +kernel
theorem d11_findBounds_51 : decode y11_findBounds.2.1 51 = .ok (.if_icmp .ge 78, 3) := by decide +kernel
theorem d11_findBounds_54 : decode y11_findBounds.2.1 54 = .ok (.aload_n 0, 1) := by decide +kernel
theorem d11_findBounds_55 : decode y11_findBounds.2.1 55 = .ok (.getfield 52, 3) := by decide +kernel
theorem d11_findBounds_58 : decode y11_findBounds.2.1 58 = .ok (.iload_n 1, 1) := by decide +kernel
theorem d11_findBounds_59 : decode y11_findBounds.2.1 59 = .ok (.baload, 1) := by decide +kernel
theorem d11_findBounds_60 : decode y11_findBounds.2.1 60 = .ok (.ifCond .eq 69, 3) := by decide +kernel
theorem d11_findBounds_63 : decode y11_findBounds.2.1 63 = .ok (.aload_n 0, 1) := by decide +kernel
theorem d11_findBounds_64 : decode y11_findBounds.2.1 64 = .ok (.iload_n 1, 1) := by decide +kernel
theorem d11_findBounds_65 : decode y11_findBounds.2.1 65 = .ok (.iload_n 2, 1) := by decide +kernel
theorem d11_findBounds_66 : decode y11_findBounds.2.1 66 = .ok (.invokevirtual 159, 3) := by decide +kernel
theorem d11_findBounds_69 : decode y11_findBounds.2.1 69 = .ok (.istore_n 3, 1) := by decide +kernel
theorem d11_findBounds_70 : decode y11_findBounds.2.1 70 = .ok (.iload_n 3, 1) := by decide +kernel
theorem d11_findBounds_71 : decode y11_findBounds.2.1 71 = .ok (.ifCond .ge 6, 3) := by decide +kernel
theorem d11_findBounds_74 : decode y11_findBounds.2.1 74 = .ok (.goto 49, 3) := by decide +kernel
theorem d11_findBounds_77 : decode y11_findBounds.2.1 77 = .ok (.aload_n 0, 1) := by decide +kernel
theorem d11_findBounds_78 : decode y11_findBounds.2.1 78 = .ok (.iload_n 1, 1) := by decide +kernel
theorem d11_findBounds_79 : decode y11_findBounds.2.1 79 = .ok (.iload_n 2, 1) := by decide +kernel
theorem d11_findBounds_80 : decode y11_findBounds.2.1 80 = .ok (.invokevirtual 163, 3) := by decide +kernel
theorem d11_findBounds_83 : decode y11_findBounds.2.1 83 = .ok (.aload_n 0, 1) := by decide +kernel
theorem d11_findBounds_84 : decode y11_findBounds.2.1 84 = .ok (.getfield 56, 3) := by decide +kernel
theorem d11_findBounds_87 : decode y11_findBounds.2.1 87 = .ok (.iconst 2, 1) := by decide +kernel
theorem d11_findBounds_88 : decode y11_findBounds.2.1 88 = .ok (.iload_n 1, 1) := by decide +kernel
theorem d11_findBounds_89 : decode y11_findBounds.2.1 89 = .ok (.imul, 1) := by decide +kernel
theorem d11_findBounds_90 : decode y11_findBounds.2.1 90 = .ok (.iload_n 2, 1) := by decide +kernel
theorem d11_findBounds_91 : decode y11_findBounds.2.1 91 = .ok (.iadd, 1) := by decide +kernel
theorem d11_findBounds_92 : decode y11_findBounds.2.1 92 = .ok (.aload_n 0, 1) := by decide +kernel
theorem d11_findBounds_93 : decode y11_findBounds.2.1 93 = .ok (.invokevirtual 151, 3) := by decide +kernel
theorem d11_findBounds_96 : decode y11_findBounds.2.1 96 = .ok (.ifCond .ne 7, 3) := by decide +kernel
theorem d11_findBounds_99 : decode y11_findBounds.2.1 99 = .ok (.iconst 1, 1) := by decide +kernel
theorem d11_findBounds_100 : decode y11_findBounds.2.1 100 = .ok (.goto 4, 3) := by decide +kernel
theorem d11_findBounds_103 : decode y11_findBounds.2.1 103 = .ok (.iconst 0, 1) := by decide +kernel
theorem d11_findBounds_104 : decode y11_findBounds.2.1 104 = .ok (.bastore, 1) := by decide +kernel
theorem d11_findBounds_105 : decode y11_findBounds.2.1 105 = .ok (.aload_n 0, 1) := by decide +kernel
theorem d11_findBounds_106 : decode y11_findBounds.2.1 106 = .ok (.getfield 56, 3) := by decide +kernel
theorem d11_findBounds_109 : decode y11_findBounds.2.1 109 = .ok (.iconst 2, 1) := by decide +kernel
theorem d11_findBounds_110 : decode y11_findBounds.2.1 110 = .ok (.iload_n 1, 1) := by decide +kernel
theorem d11_findBounds_111 : decode y11_findBounds.2.1 111 = .ok (.imul, 1) := by decide +kernel
theorem d11_findBounds_112 : decode y11_findBounds.2.1 112 = .ok (.iload_n 2, 1) := by decide +kernel
theorem d11_findBounds_113 : decode y11_findBounds.2.1 113 = .ok (.iadd, 1) := by decide +kernel
theorem d11_findBounds_114 : decode y11_findBounds.2.1 114 = .ok (.baload, 1) := by decide +kernel
theorem d11_findBounds_115 : decode y11_findBounds.2.1 115 = .ok (.ifCond .ne 8, 3) := by decide +kernel
theorem d11_findBounds_118 : decode y11_findBounds.2.1 118 = .ok (.aload_n 0, 1) := by decide +kernel
theorem d11_findBounds_119 : decode y11_findBounds.2.1 119 = .ok (.iload_n 3, 1) := by decide +kernel
theorem d11_findBounds_120 : decode y11_findBounds.2.1 120 = .ok (.invokevirtual 155, 3) := by decide +kernel
theorem d11_findBounds_123 : decode y11_findBounds.2.1 123 = .ok (.iinc 2 1, 3) := by decide +kernel
theorem d11_findBounds_126 : decode y11_findBounds.2.1 126 = .ok (.goto (-77), 3) := by decide +kernel
theorem d11_findBounds_129 : decode y11_findBounds.2.1 129 = .ok (.iinc 1 1, 3) := by decide +kernel
theorem d11_findBounds_132 : decode y11_findBounds.2.1 132 = .ok (.goto (-93), 3) := by decide +kernel
theorem d11_findBounds_135 : decode y11_findBounds.2.1 135 = .ok (.return_, 1) := by decide +kernel
theorem d11_beginning_0 : decode y11_beginning.2.1 0 = .ok (.aload_n 0, 1) := by decide +kernel
theorem d11_beginning_1 : decode y11_beginning.2.1 1 = .ok (.iconst 0, 1) := by decide +kernel
theorem d11_beginning_2 : decode y11_beginning.2.1 2 = .ok (.putfield 92, 3) := by decide +kernel
theorem d11_beginning_5 : decode y11_beginning.2.1 5 = .ok (.aload_n 0, 1) := by decide +kernel
theorem d11_beginning_6 : decode y11_beginning.2.1 6 = .ok (.iconst 0, 1) := by decide +kernel
theorem d11_beginning_7 : decode y11_beginning.2.1 7 = .ok (.putfield 100, 3) := by decide +kernel
theorem d11_beginning_10 : decode y11_beginning.2.1 10 = .ok (.aload_n 0, 1) := by decide +kernel
theorem d11_beginning_11 : decode y11_beginning.2.1 11 = .ok (.iconst 0, 1) := by decide +kernel
theorem d11_beginning_12 : decode y11_beginning.2.1 12 = .ok (.iconst 2, 1) := by decide +kernel
theorem d11_beginning_13 : decode y11_beginning.2.1 13 = .ok (.bipush 9, 2) := by decide +kernel
theorem d11_beginning_15 : decode y11_beginning.2.1 15 = .ok (.lconst 0, 1) := by decide +kernel
theorem d11_beginning_16 : decode y11_beginning.2.1 16 = .ok (.lconst 0, 1) := by decide +kernel
theorem d11_beginning_17 : decode y11_beginning.2.1 17 = .ok (.invokevirtual 111, 3) := by decide +kernel
theorem d11_beginning_20 : decode y11_beginning.2.1 20 = .ok (.iconst 2, 1) := by decide +kernel
theorem d11_beginning_21 : decode y11_beginning.2.1 21 = .ok (.istore_n 1, 1) := by decide +kernel
theorem d11_beginning_22 : decode y11_beginning.2.1 22 = .ok (.iconst 0, 1) := by decide +kernel
theorem d11_beginning_23 : decode y11_beginning.2.1 23 = .ok (.istore_n 2, 1) := by decide +kernel
theorem d11_beginning_24 : decode y11_beginning.2.1 24 = .ok (.iload_n 2, 1) := by decide +kernel
theorem d11_beginning_25 : decode y11_beginning.2.1 25 = .ok (.bipush 8, 2) := by decide +kernel
theorem d11_beginning_27 : decode y11_beginning.2.1 27 = .ok (.if_icmp .ge 31, 3) := by decide +kernel
theorem d11_beginning_30 : decode y11_beginning.2.1 30 = .ok (.iload_n 2, 1) := by decide +kernel
theorem d11_beginning_31 : decode y11_beginning.2.1 31 = .ok (.iconst 1, 1) := by decide +kernel
theorem d11_beginning_32 : decode y11_beginning.2.1 32 = .ok (.if_icmp .ne 6, 3) := by decide +kernel
theorem d11_beginning_35 : decode y11_beginning.2.1 35 = .ok (.goto 17, 3) := by decide +kernel
theorem d11_beginning_38 : decode y11_beginning.2.1 38 = .ok (.aload_n 0, 1) := by decide +kernel
theorem d11_beginning_39 : decode y11_beginning.2.1 39 = .ok (.iload_n 1, 1) := by decide +kernel
theorem d11_beginning_40 : decode y11_beginning.2.1 40 = .ok (.iconst 1, 1) := by decide +kernel
theorem d11_beginning_41 : decode y11_beginning.2.1 41 = .ok (.iload_n 2, 1) := by decide +kernel
theorem d11_beginning_42 : decode y11_beginning.2.1 42 = .ok (.iadd, 1) := by decide +kernel
theorem d11_beginning_43 : decode y11_beginning.2.1 43 = .ok (.iconst 0, 1) := by decide +kernel
theorem d11_beginning_44 : decode y11_beginning.2.1 44 = .ok (.lconst 0, 1) := by decide +kernel
theorem d11_beginning_45 : decode y11_beginning.2.1 45 = .ok (.lconst 0, 1) := by decide +kernel
theorem d11_beginning_46 : decode y11_beginning.2.1 46 = .ok (.invokevirtual 111, 3) := by decide +kernel
theorem d11_beginning_49 : decode y11_beginning.2.1 49 = .ok (.iinc 1 2, 3) := by decide +kernel
theorem d11_beginning_52 : decode y11_beginning.2.1 52 = .ok (.iinc 2 1, 3) := by decide +kernel
theorem d11_beginning_55 : decode y11_beginning.2.1 55 = .ok (.goto (-31), 3) := by decide +kernel
theorem d11_beginning_58 : decode y11_beginning.2.1 58 = .ok (.aload_n 0, 1) := by decide +kernel
theorem d11_beginning_59 : decode y11_beginning.2.1 59 = .ok (.iload_n 1, 1) := by decide +kernel
theorem d11_beginning_60 : decode y11_beginning.2.1 60 = .ok (.iconst 0, 1) := by decide +kernel
theorem d11_beginning_61 : decode y11_beginning.2.1 61 = .ok (.bipush 9, 2) := by decide +kernel
theorem d11_beginning_63 : decode y11_beginning.2.1 63 = .ok (.aload_n 0, 1) := by decide +kernel
theorem d11_beginning_64 : decode y11_beginning.2.1 64 = .ok (.getfield 86, 3) := by decide +kernel
theorem d11_beginning_67 : decode y11_beginning.2.1 67 = .ok (.i2l, 1) := by decide +kernel
theorem d11_beginning_68 : decode y11_beginning.2.1 68 = .ok (.lneg, 1) := by decide +kernel
theorem d11_beginning_69 : decode y11_beginning.2.1 69 = .ok (.invokevirtual 107, 3) := by decide +kernel
theorem d11_beginning_72 : decode y11_beginning.2.1 72 = .ok (.aload_n 0, 1) := by decide +kernel
theorem d11_beginning_73 : decode y11_beginning.2.1 73 = .ok (.iload_n 1, 1) := by decide +kernel
theorem d11_beginning_74 : decode y11_beginning.2.1 74 = .ok (.iconst 1, 1) := by decide +kernel
theorem d11_beginning_75 : decode y11_beginning.2.1 75 = .ok (.iadd, 1) := by decide +kernel
theorem d11_beginning_76 : decode y11_beginning.2.1 76 = .ok (.bipush 9, 2) := by decide +kernel
theorem d11_beginning_78 : decode y11_beginning.2.1 78 = .ok (.iconst 0, 1) := by decide +kernel
theorem d11_beginning_79 : decode y11_beginning.2.1 79 = .ok (.ldc2_w 121, 3) := by decide +kernel
theorem d11_beginning_82 : decode y11_beginning.2.1 82 = .ok (.invokevirtual 107, 3) := by decide +kernel
theorem d11_beginning_85 : decode y11_beginning.2.1 85 = .ok (.return_, 1) := by decide +kernel
theorem d11_both_0 : decode y11_both.2.1 0 = .ok (.aload_n 0, 1) := by decide +kernel
theorem d11_both_1 : decode y11_both.2.1 1 = .ok (.iload_n 1, 1) := by decide +kernel
theorem d11_both_2 : decode y11_both.2.1 2 = .ok (.iload_n 2, 1) := by decide +kernel
theorem d11_both_3 : decode y11_both.2.1 3 = .ok (.iload_n 3, 1) := by decide +kernel
theorem d11_both_4 : decode y11_both.2.1 4 = .ok (.lload 4, 2) := by decide +kernel
theorem d11_both_6 : decode y11_both.2.1 6 = .ok (.invokevirtual 107, 3) := by decide +kernel
theorem d11_both_9 : decode y11_both.2.1 9 = .ok (.aload_n 0, 1) := by decide +kernel
theorem d11_both_10 : decode y11_both.2.1 10 = .ok (.iload_n 1, 1) := by decide +kernel
theorem d11_both_11 : decode y11_both.2.1 11 = .ok (.iconst 1, 1) := by decide +kernel
theorem d11_both_12 : decode y11_both.2.1 12 = .ok (.iadd, 1) := by decide +kernel
theorem d11_both_13 : decode y11_both.2.1 13 = .ok (.iload_n 3, 1) := by decide +kernel
theorem d11_both_14 : decode y11_both.2.1 14 = .ok (.iload_n 2, 1) := by decide +kernel
theorem d11_both_15 : decode y11_both.2.1 15 = .ok (.lload 6, 2) := by decide +kernel
theorem d11_both_17 : decode y11_both.2.1 17 = .ok (.invokevirtual 107, 3) := by decide +kernel
theorem d11_both_20 : decode y11_both.2.1 20 = .ok (.return_, 1) := by decide +kernel
theorem d11_step_0 : decode y11_step.2.1 0 = .ok (.aload_n 0, 1) := by decide +kernel
theorem d11_step_1 : decode y11_step.2.1 1 = .ok (.getfield 92, 3) := by decide +kernel
theorem d11_step_4 : decode y11_step.2.1 4 = .ok (.ifCond .eq 12, 3) := by decide +kernel
theorem d11_step_7 : decode y11_step.2.1 7 = .ok (.lload 4, 2) := by decide +kernel
theorem d11_step_9 : decode y11_step.2.1 9 = .ok (.invokestatic 96, 3) := by decide +kernel
theorem d11_step_12 : decode y11_step.2.1 12 = .ok (.ifCond .ne 4, 3) := by decide +kernel
theorem d11_step_15 : decode y11_step.2.1 15 = .ok (.return_, 1) := by decide +kernel
theorem d11_step_16 : decode y11_step.2.1 16 = .ok (.aload_n 0, 1) := by decide +kernel
theorem d11_step_17 : decode y11_step.2.1 17 = .ok (.getfield 36, 3) := by decide +kernel
theorem d11_step_20 : decode y11_step.2.1 20 = .ok (.aload_n 0, 1) := by decide +kernel
theorem d11_step_21 : decode y11_step.2.1 21 = .ok (.getfield 100, 3) := by decide +kernel
theorem d11_step_24 : decode y11_step.2.1 24 = .ok (.iload_n 1, 1) := by decide +kernel
theorem d11_step_25 : decode y11_step.2.1 25 = .ok (.iastore, 1) := by decide +kernel
theorem d11_step_26 : decode y11_step.2.1 26 = .ok (.aload_n 0, 1) := by decide +kernel
theorem d11_step_27 : decode y11_step.2.1 27 = .ok (.getfield 39, 3) := by decide +kernel
theorem d11_step_30 : decode y11_step.2.1 30 = .ok (.aload_n 0, 1) := by decide +kernel
theorem d11_step_31 : decode y11_step.2.1 31 = .ok (.getfield 100, 3) := by decide +kernel
theorem d11_step_34 : decode y11_step.2.1 34 = .ok (.iload_n 2, 1) := by decide +kernel
theorem d11_step_35 : decode y11_step.2.1 35 = .ok (.iastore, 1) := by decide +kernel
theorem d11_step_36 : decode y11_step.2.1 36 = .ok (.aload_n 0, 1) := by decide +kernel
theorem d11_step_37 : decode y11_step.2.1 37 = .ok (.getfield 42, 3) := by decide +kernel
theorem d11_step_40 : decode y11_step.2.1 40 = .ok (.aload_n 0, 1) := by decide +kernel
theorem d11_step_41 : decode y11_step.2.1 41 = .ok (.getfield 100, 3) := by decide +kernel
theorem d11_step_44 : decode y11_step.2.1 44 = .ok (.iload_n 3, 1) := by decide +kernel
theorem d11_step_45 : decode y11_step.2.1 45 = .ok (.iastore, 1) := by decide +kernel
theorem d11_step_46 : decode y11_step.2.1 46 = .ok (.aload_n 0, 1) := by decide +kernel
theorem d11_step_47 : decode y11_step.2.1 47 = .ok (.getfield 45, 3) := by decide +kernel
theorem d11_step_50 : decode y11_step.2.1 50 = .ok (.aload_n 0, 1) := by decide +kernel
theorem d11_step_51 : decode y11_step.2.1 51 = .ok (.getfield 100, 3) := by decide +kernel
theorem d11_step_54 : decode y11_step.2.1 54 = .ok (.lload 4, 2) := by decide +kernel
theorem d11_step_56 : decode y11_step.2.1 56 = .ok (.lastore, 1) := by decide +kernel
theorem d11_step_57 : decode y11_step.2.1 57 = .ok (.aload_n 0, 1) := by decide +kernel
theorem d11_step_58 : decode y11_step.2.1 58 = .ok (.dup, 1) := by decide +kernel
theorem d11_step_59 : decode y11_step.2.1 59 = .ok (.getfield 100, 3) := by decide +kernel
theorem d11_step_62 : decode y11_step.2.1 62 = .ok (.iconst 1, 1) := by decide +kernel
theorem d11_step_63 : decode y11_step.2.1 63 = .ok (.iadd, 1) := by decide +kernel
theorem d11_step_64 : decode y11_step.2.1 64 = .ok (.putfield 100, 3) := by decide +kernel
theorem d11_step_67 : decode y11_step.2.1 67 = .ok (.return_, 1) := by decide +kernel
theorem d11_isInt_0 : decode y11_isInt.2.1 0 = .ok (.lload_n 0, 1) := by decide +kernel
theorem d11_isInt_1 : decode y11_isInt.2.1 1 = .ok (.ldc2_w 129, 3) := by decide +kernel
theorem d11_isInt_4 : decode y11_isInt.2.1 4 = .ok (.lcmp, 1) := by decide +kernel
theorem d11_isInt_5 : decode y11_isInt.2.1 5 = .ok (.ifCond .lt 15, 3) := by decide +kernel
theorem d11_isInt_8 : decode y11_isInt.2.1 8 = .ok (.lload_n 0, 1) := by decide +kernel
theorem d11_isInt_9 : decode y11_isInt.2.1 9 = .ok (.ldc2_w 131, 3) := by decide +kernel
theorem d11_isInt_12 : decode y11_isInt.2.1 12 = .ok (.lcmp, 1) := by decide +kernel
theorem d11_isInt_13 : decode y11_isInt.2.1 13 = .ok (.ifCond .gt 7, 3) := by decide +kernel
theorem d11_isInt_16 : decode y11_isInt.2.1 16 = .ok (.iconst 1, 1) := by decide +kernel
theorem d11_isInt_17 : decode y11_isInt.2.1 17 = .ok (.goto 4, 3) := by decide +kernel
theorem d11_isInt_20 : decode y11_isInt.2.1 20 = .ok (.iconst 0, 1) := by decide +kernel
theorem d11_isInt_21 : decode y11_isInt.2.1 21 = .ok (.ireturn, 1) := by decide +kernel
theorem d11_relax_0 : decode y11_relax.2.1 0 = .ok (.iconst 0, 1) := by decide +kernel
theorem d11_relax_1 : decode y11_relax.2.1 1 = .ok (.istore_n 1, 1) := by decide +kernel
theorem d11_relax_2 : decode y11_relax.2.1 2 = .ok (.iload_n 1, 1) := by decide +kernel
theorem d11_relax_3 : decode y11_relax.2.1 3 = .ok (.bipush 100, 2) := by decide +kernel
theorem d11_relax_5 : decode y11_relax.2.1 5 = .ok (.if_icmp .ge 29, 3) := by decide +kernel
theorem d11_relax_8 : decode y11_relax.2.1 8 = .ok (.aload_n 0, 1) := by decide +kernel
theorem d11_relax_9 : decode y11_relax.2.1 9 = .ok (.getfield 59, 3) := by decide +kernel
theorem d11_relax_12 : decode y11_relax.2.1 12 = .ok (.iload_n 1, 1) := by decide +kernel
theorem d11_relax_13 : decode y11_relax.2.1 13 = .ok (.iload_n 1, 1) := by decide +kernel
theorem d11_relax_14 : decode y11_relax.2.1 14 = .ok (.bipush 11, 2) := by decide +kernel
theorem d11_relax_16 : decode y11_relax.2.1 16 = .ok (.irem, 1) := by decide +kernel
theorem d11_relax_17 : decode y11_relax.2.1 17 = .ok (.ifCond .ne 7, 3) := by decide +kernel
theorem d11_relax_20 : decode y11_relax.2.1 20 = .ok (.lconst 0, 1) := by decide +kernel
theorem d11_relax_21 : decode y11_relax.2.1 21 = .ok (.goto 6, 3) := by decide +kernel
theorem d11_relax_24 : decode y11_relax.2.1 24 = .ok (.ldc2_w 123, 3) := by decide +kernel
theorem d11_relax_27 : decode y11_relax.2.1 27 = .ok (.lastore, 1) := by decide +kernel
theorem d11_relax_28 : decode y11_relax.2.1 28 = .ok (.iinc 1 1, 3) := by decide +kernel
theorem d11_relax_31 : decode y11_relax.2.1 31 = .ok (.goto (-29), 3) := by decide +kernel
theorem d11_relax_34 : decode y11_relax.2.1 34 = .ok (.iconst 0, 1) := by decide +kernel
theorem d11_relax_35 : decode y11_relax.2.1 35 = .ok (.istore_n 1, 1) := by decide +kernel
theorem d11_relax_36 : decode y11_relax.2.1 36 = .ok (.iload_n 1, 1) := by decide +kernel
theorem d11_relax_37 : decode y11_relax.2.1 37 = .ok (.aload_n 0, 1) := by decide +kernel
theorem d11_relax_38 : decode y11_relax.2.1 38 = .ok (.getfield 100, 3) := by decide +kernel
theorem d11_relax_41 : decode y11_relax.2.1 41 = .ok (.if_icmp .ge 54, 3) := by decide +kernel
theorem d11_relax_44 : decode y11_relax.2.1 44 = .ok (.bipush 10, 2) := by decide +kernel
theorem d11_relax_46 : decode y11_relax.2.1 46 = .ok (.aload_n 0, 1) := by decide +kernel
theorem d11_relax_47 : decode y11_relax.2.1 47 = .ok (.getfield 39, 3) := by decide +kernel
theorem d11_relax_50 : decode y11_relax.2.1 50 = .ok (.iload_n 1, 1) := by decide +kernel
theorem d11_relax_51 : decode y11_relax.2.1 51 = .ok (.iaload, 1) := by decide +kernel
theorem d11_relax_52 : decode y11_relax.2.1 52 = .ok (.imul, 1) := by decide +kernel
theorem d11_relax_53 : decode y11_relax.2.1 53 = .ok (.aload_n 0, 1) := by decide +kernel
theorem d11_relax_54 : decode y11_relax.2.1 54 = .ok (.getfield 42, 3) := by decide +kernel
theorem d11_relax_57 : decode y11_relax.2.1 57 = .ok (.iload_n 1, 1) := by decide +kernel
theorem d11_relax_58 : decode y11_relax.2.1 58 = .ok (.iaload, 1) := by decide +kernel
theorem d11_relax_59 : decode y11_relax.2.1 59 = .ok (.iadd, 1) := by decide +kernel
theorem d11_relax_60 : decode y11_relax.2.1 60 = .ok (.istore_n 2, 1) := by decide +kernel
theorem d11_relax_61 : decode y11_relax.2.1 61 = .ok (.aload_n 0, 1) := by decide +kernel
theorem d11_relax_62 : decode y11_relax.2.1 62 = .ok (.getfield 45, 3) := by decide +kernel
theorem d11_relax_65 : decode y11_relax.2.1 65 = .ok (.iload_n 1, 1) := by decide +kernel
theorem d11_relax_66 : decode y11_relax.2.1 66 = .ok (.laload, 1) := by decide +kernel
theorem d11_relax_67 : decode y11_relax.2.1 67 = .ok (.aload_n 0, 1) := by decide +kernel
theorem d11_relax_68 : decode y11_relax.2.1 68 = .ok (.getfield 59, 3) := by decide +kernel
theorem d11_relax_71 : decode y11_relax.2.1 71 = .ok (.iload_n 2, 1) := by decide +kernel
theorem d11_relax_72 : decode y11_relax.2.1 72 = .ok (.laload, 1) := by decide +kernel
theorem d11_relax_73 : decode y11_relax.2.1 73 = .ok (.lcmp, 1) := by decide +kernel
theorem d11_relax_74 : decode y11_relax.2.1 74 = .ok (.ifCond .ge 15, 3) := by decide +kernel
theorem d11_relax_77 : decode y11_relax.2.1 77 = .ok (.aload_n 0, 1) := by decide +kernel
theorem d11_relax_78 : decode y11_relax.2.1 78 = .ok (.getfield 59, 3) := by decide +kernel
theorem d11_relax_81 : decode y11_relax.2.1 81 = .ok (.iload_n 2, 1) := by decide +kernel
theorem d11_relax_82 : decode y11_relax.2.1 82 = .ok (.aload_n 0, 1) := by decide +kernel
theorem d11_relax_83 : decode y11_relax.2.1 83 = .ok (.getfield 45, 3) := by decide +kernel
theorem d11_relax_86 : decode y11_relax.2.1 86 = .ok (.iload_n 1, 1) := by decide +kernel
theorem d11_relax_87 : decode y11_relax.2.1 87 = .ok (.laload, 1) := by decide +kernel
theorem d11_relax_88 : decode y11_relax.2.1 88 = .ok (.lastore, 1) := by decide +kernel
theorem d11_relax_89 : decode y11_relax.2.1 89 = .ok (.iinc 1 1, 3) := by decide +kernel
theorem d11_relax_92 : decode y11_relax.2.1 92 = .ok (.goto (-56), 3) := by decide +kernel
theorem d11_relax_95 : decode y11_relax.2.1 95 = .ok (.iconst 1, 1) := by decide +kernel
theorem d11_relax_96 : decode y11_relax.2.1 96 = .ok (.istore_n 1, 1) := by decide +kernel
theorem d11_relax_97 : decode y11_relax.2.1 97 = .ok (.iload_n 1, 1) := by decide +kernel
theorem d11_relax_98 : decode y11_relax.2.1 98 = .ok (.ifCond .eq 87, 3) := by decide +kernel
theorem d11_relax_101 : decode y11_relax.2.1 101 = .ok (.iconst 0, 1) := by decide +kernel
theorem d11_relax_102 : decode y11_relax.2.1 102 = .ok (.istore_n 1, 1) := by decide +kernel
theorem d11_relax_103 : decode y11_relax.2.1 103 = .ok (.iconst 0, 1) := by decide +kernel
theorem d11_relax_104 : decode y11_relax.2.1 104 = .ok (.istore_n 2, 1) := by decide +kernel
theorem d11_relax_105 : decode y11_relax.2.1 105 = .ok (.iload_n 2, 1) := by decide +kernel
theorem d11_relax_106 : decode y11_relax.2.1 106 = .ok (.bipush 100, 2) := by decide +kernel
theorem d11_relax_108 : decode y11_relax.2.1 108 = .ok (.if_icmp .ge 44, 3) := by decide +kernel
theorem d11_relax_111 : decode y11_relax.2.1 111 = .ok (.iload_n 2, 1) := by decide +kernel
theorem d11_relax_112 : decode y11_relax.2.1 112 = .ok (.bipush 11, 2) := by decide +kernel
theorem d11_relax_114 : decode y11_relax.2.1 114 = .ok (.irem, 1) := by decide +kernel
theorem d11_relax_115 : decode y11_relax.2.1 115 = .ok (.ifCond .eq 31, 3) := by decide +kernel
theorem d11_relax_118 : decode y11_relax.2.1 118 = .ok (.aload_n 0, 1) := by decide +kernel
theorem d11_relax_119 : decode y11_relax.2.1 119 = .ok (.getfield 59, 3) := by decide +kernel
theorem d11_relax_122 : decode y11_relax.2.1 122 = .ok (.iload_n 2, 1) := by decide +kernel
theorem d11_relax_123 : decode y11_relax.2.1 123 = .ok (.laload, 1) := by decide +kernel
theorem d11_relax_124 : decode y11_relax.2.1 124 = .ok (.ldc2_w 123, 3) := by decide +kernel
theorem d11_relax_127 : decode y11_relax.2.1 127 = .ok (.lcmp, 1) := by decide +kernel
theorem d11_relax_128 : decode y11_relax.2.1 128 = .ok (.ifCond .ge 18, 3) := by decide +kernel
theorem d11_relax_131 : decode y11_relax.2.1 131 = .ok (.iload_n 1, 1) := by decide +kernel
theorem d11_relax_132 : decode y11_relax.2.1 132 = .ok (.aload_n 0, 1) := by decide +kernel
theorem d11_relax_133 : decode y11_relax.2.1 133 = .ok (.iload_n 2, 1) := by decide +kernel
theorem d11_relax_134 : decode y11_relax.2.1 134 = .ok (.bipush 10, 2) := by decide +kernel
theorem d11_relax_136 : decode y11_relax.2.1 136 = .ok (.idiv, 1) := by decide +kernel
theorem d11_relax_137 : decode y11_relax.2.1 137 = .ok (.iload_n 2, 1) := by decide +kernel
theorem d11_relax_138 : decode y11_relax.2.1 138 = .ok (.bipush 10, 2) := by decide +kernel
theorem d11_relax_140 : decode y11_relax.2.1 140 = .ok (.irem, 1) := by decide +kernel
theorem d11_relax_141 : decode y11_relax.2.1 141 = .ok (.invokevirtual 125, 3) := by decide +kernel
theorem d11_relax_144 : decode y11_relax.2.1 144 = .ok (.ior, 1) := by decide +kernel
theorem d11_relax_145 : decode y11_relax.2.1 145 = .ok (.istore_n 1, 1) := by decide +kernel
theorem d11_relax_146 : decode y11_relax.2.1 146 = .ok (.iinc 2 1, 3) := by decide +kernel
theorem d11_relax_149 : decode y11_relax.2.1 149 = .ok (.goto (-44), 3) := by decide +kernel
theorem d11_relax_152 : decode y11_relax.2.1 152 = .ok (.iconst 0, 1) := by decide +kernel
theorem d11_relax_153 : decode y11_relax.2.1 153 = .ok (.istore_n 2, 1) := by decide +kernel
theorem d11_relax_154 : decode y11_relax.2.1 154 = .ok (.iload_n 2, 1) := by decide +kernel
theorem d11_relax_155 : decode y11_relax.2.1 155 = .ok (.bipush 10, 2) := by decide +kernel
theorem d11_relax_157 : decode y11_relax.2.1 157 = .ok (.if_icmp .ge 25, 3) := by decide +kernel
theorem d11_relax_160 : decode y11_relax.2.1 160 = .ok (.aload_n 0, 1) := by decide +kernel
theorem d11_relax_161 : decode y11_relax.2.1 161 = .ok (.getfield 59, 3) := by decide +kernel
theorem d11_relax_164 : decode y11_relax.2.1 164 = .ok (.bipush 11, 2) := by decide +kernel
theorem d11_relax_166 : decode y11_relax.2.1 166 = .ok (.iload_n 2, 1) := by decide +kernel
theorem d11_relax_167 : decode y11_relax.2.1 167 = .ok (.imul, 1) := by decide +kernel
theorem d11_relax_168 : decode y11_relax.2.1 168 = .ok (.laload, 1) := by decide +kernel
theorem d11_relax_169 : decode y11_relax.2.1 169 = .ok (.lconst 0, 1) := by decide +kernel
theorem d11_relax_170 : decode y11_relax.2.1 170 = .ok (.lcmp, 1) := by decide +kernel
theorem d11_relax_171 : decode y11_relax.2.1 171 = .ok (.ifCond .ge 5, 3) := by decide +kernel
theorem d11_relax_174 : decode y11_relax.2.1 174 = .ok (.iconst 0, 1) := by decide +kernel
theorem d11_relax_175 : decode y11_relax.2.1 175 = .ok (.ireturn, 1) := by decide +kernel
theorem d11_relax_176 : decode y11_relax.2.1 176 = .ok (.iinc 2 1, 3) := by decide +kernel
theorem d11_relax_179 : decode y11_relax.2.1 179 = .ok (.goto (-25), 3) := by decide +kernel
theorem d11_relax_182 : decode y11_relax.2.1 182 = .ok (.goto (-85), 3) := by decide +kernel
theorem d11_relax_185 : decode y11_relax.2.1 185 = .ok (.iconst 1, 1) := by decide +kernel
theorem d11_relax_186 : decode y11_relax.2.1 186 = .ok (.ireturn, 1) := by decide +kernel
