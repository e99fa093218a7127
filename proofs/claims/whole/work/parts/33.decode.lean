theorem d11_say_0 : decode y11_say.2.1 0 = .ok (.aload_n 0, 1) := by decide +kernel
theorem d11_say_1 : decode y11_say.2.1 1 = .ok (.getfield 217, 3) := by decide +kernel
theorem d11_say_4 : decode y11_say.2.1 4 = .ok (.sipush 20000, 3) := by decide +kernel
theorem d11_say_7 : decode y11_say.2.1 7 = .ok (.if_icmp .ne 6, 3) := by decide +kernel
theorem d11_say_10 : decode y11_say.2.1 10 = .ok (.bipush (-3), 2) := by decide +kernel
theorem d11_say_12 : decode y11_say.2.1 12 = .ok (.ireturn, 1) := by decide +kernel
theorem d11_say_13 : decode y11_say.2.1 13 = .ok (.aload_n 0, 1) := by decide +kernel
theorem d11_say_14 : decode y11_say.2.1 14 = .ok (.getfield 25, 3) := by decide +kernel
theorem d11_say_17 : decode y11_say.2.1 17 = .ok (.aload_n 0, 1) := by decide +kernel
theorem d11_say_18 : decode y11_say.2.1 18 = .ok (.getfield 217, 3) := by decide +kernel
theorem d11_say_21 : decode y11_say.2.1 21 = .ok (.iload_n 1, 1) := by decide +kernel
theorem d11_say_22 : decode y11_say.2.1 22 = .ok (.iastore, 1) := by decide +kernel
theorem d11_say_23 : decode y11_say.2.1 23 = .ok (.aload_n 0, 1) := by decide +kernel
theorem d11_say_24 : decode y11_say.2.1 24 = .ok (.dup, 1) := by decide +kernel
theorem d11_say_25 : decode y11_say.2.1 25 = .ok (.getfield 217, 3) := by decide +kernel
theorem d11_say_28 : decode y11_say.2.1 28 = .ok (.iconst 1, 1) := by decide +kernel
theorem d11_say_29 : decode y11_say.2.1 29 = .ok (.iadd, 1) := by decide +kernel
theorem d11_say_30 : decode y11_say.2.1 30 = .ok (.putfield 217, 3) := by decide +kernel
theorem d11_say_33 : decode y11_say.2.1 33 = .ok (.aload_n 0, 1) := by decide +kernel
theorem d11_say_34 : decode y11_say.2.1 34 = .ok (.getfield 217, 3) := by decide +kernel
theorem d11_say_37 : decode y11_say.2.1 37 = .ok (.ireturn, 1) := by decide +kernel
theorem d11_cut_0 : decode y11_cut.2.1 0 = .ok (.iload_n 1, 1) := by decide +kernel
theorem d11_cut_1 : decode y11_cut.2.1 1 = .ok (.ifCond .lt 11, 3) := by decide +kernel
theorem d11_cut_4 : decode y11_cut.2.1 4 = .ok (.iload_n 1, 1) := by decide +kernel
theorem d11_cut_5 : decode y11_cut.2.1 5 = .ok (.aload_n 0, 1) := by decide +kernel
theorem d11_cut_6 : decode y11_cut.2.1 6 = .ok (.getfield 217, 3) := by decide +kernel
theorem d11_cut_9 : decode y11_cut.2.1 9 = .ok (.if_icmp .le 5, 3) := by decide +kernel
theorem d11_cut_12 : decode y11_cut.2.1 12 = .ok (.iconst 0, 1) := by decide +kernel
theorem d11_cut_13 : decode y11_cut.2.1 13 = .ok (.ireturn, 1) := by decide +kernel
theorem d11_cut_14 : decode y11_cut.2.1 14 = .ok (.aload_n 0, 1) := by decide +kernel
theorem d11_cut_15 : decode y11_cut.2.1 15 = .ok (.iload_n 1, 1) := by decide +kernel
theorem d11_cut_16 : decode y11_cut.2.1 16 = .ok (.putfield 217, 3) := by decide +kernel
theorem d11_cut_19 : decode y11_cut.2.1 19 = .ok (.iconst 1, 1) := by decide +kernel
theorem d11_cut_20 : decode y11_cut.2.1 20 = .ok (.ireturn, 1) := by decide +kernel
theorem d11_change_0 : decode y11_change.2.1 0 = .ok (.iload_n 1, 1) := by decide +kernel
theorem d11_change_1 : decode y11_change.2.1 1 = .ok (.ifCond .lt 11, 3) := by decide +kernel
theorem d11_change_4 : decode y11_change.2.1 4 = .ok (.iload_n 1, 1) := by decide +kernel
theorem d11_change_5 : decode y11_change.2.1 5 = .ok (.aload_n 0, 1) := by decide +kernel
theorem d11_change_6 : decode y11_change.2.1 6 = .ok (.getfield 217, 3) := by decide +kernel
theorem d11_change_9 : decode y11_change.2.1 9 = .ok (.if_icmp .lt 5, 3) := by decide +kernel
theorem d11_change_12 : decode y11_change.2.1 12 = .ok (.iconst 0, 1) := by decide +kernel
theorem d11_change_13 : decode y11_change.2.1 13 = .ok (.ireturn, 1) := by decide +kernel
theorem d11_change_14 : decode y11_change.2.1 14 = .ok (.aload_n 0, 1) := by decide +kernel
theorem d11_change_15 : decode y11_change.2.1 15 = .ok (.getfield 25, 3) := by decide +kernel
theorem d11_change_18 : decode y11_change.2.1 18 = .ok (.iload_n 1, 1) := by decide +kernel
theorem d11_change_19 : decode y11_change.2.1 19 = .ok (.iload_n 2, 1) := by decide +kernel
theorem d11_change_20 : decode y11_change.2.1 20 = .ok (.iastore, 1) := by decide +kernel
theorem d11_change_21 : decode y11_change.2.1 21 = .ok (.iconst 1, 1) := by decide +kernel
theorem d11_change_22 : decode y11_change.2.1 22 = .ok (.ireturn, 1) := by decide +kernel
theorem d11_length_0 : decode y11_length.2.1 0 = .ok (.aload_n 0, 1) := by decide +kernel
theorem d11_length_1 : decode y11_length.2.1 1 = .ok (.getfield 217, 3) := by decide +kernel
theorem d11_length_4 : decode y11_length.2.1 4 = .ok (.ireturn, 1) := by decide +kernel
theorem d11_at_0 : decode y11_at.2.1 0 = .ok (.iload_n 1, 1) := by decide +kernel
theorem d11_at_1 : decode y11_at.2.1 1 = .ok (.ifCond .lt 20, 3) := by decide +kernel
theorem d11_at_4 : decode y11_at.2.1 4 = .ok (.iload_n 1, 1) := by decide +kernel
theorem d11_at_5 : decode y11_at.2.1 5 = .ok (.aload_n 0, 1) := by decide +kernel
theorem d11_at_6 : decode y11_at.2.1 6 = .ok (.getfield 217, 3) := by decide +kernel
theorem d11_at_9 : decode y11_at.2.1 9 = .ok (.if_icmp .ge 12, 3) := by decide +kernel
theorem d11_at_12 : decode y11_at.2.1 12 = .ok (.aload_n 0, 1) := by decide +kernel
theorem d11_at_13 : decode y11_at.2.1 13 = .ok (.getfield 25, 3) := by decide +kernel
theorem d11_at_16 : decode y11_at.2.1 16 = .ok (.iload_n 1, 1) := by decide +kernel
theorem d11_at_17 : decode y11_at.2.1 17 = .ok (.iaload, 1) := by decide +kernel
theorem d11_at_18 : decode y11_at.2.1 18 = .ok (.goto 4, 3) := by decide +kernel
theorem d11_at_21 : decode y11_at.2.1 21 = .ok (.iconst 0, 1) := by decide +kernel
theorem d11_at_22 : decode y11_at.2.1 22 = .ok (.ireturn, 1) := by decide +kernel
theorem d11_check_0 : decode y11_check.2.1 0 = .ok (.aload_n 0, 1) := by decide +kernel
theorem d11_check_1 : decode y11_check.2.1 1 = .ok (.aload_n 0, 1) := by decide +kernel
theorem d11_check_2 : decode y11_check.2.1 2 = .ok (.invokevirtual 220, 3) := by decide +kernel
theorem d11_check_5 : decode y11_check.2.1 5 = .ok (.putfield 28, 3) := by decide +kernel
theorem d11_check_8 : decode y11_check.2.1 8 = .ok (.aload_n 0, 1) := by decide +kernel
theorem d11_check_9 : decode y11_check.2.1 9 = .ok (.getfield 28, 3) := by decide +kernel
theorem d11_check_12 : decode y11_check.2.1 12 = .ok (.ifCond .lt 5, 3) := by decide +kernel
theorem d11_check_15 : decode y11_check.2.1 15 = .ok (.iconst (-1), 1) := by decide +kernel
theorem d11_check_16 : decode y11_check.2.1 16 = .ok (.ireturn, 1) := by decide +kernel
theorem d11_check_17 : decode y11_check.2.1 17 = .ok (.aload_n 0, 1) := by decide +kernel
theorem d11_check_18 : decode y11_check.2.1 18 = .ok (.bipush (-2), 2) := by decide +kernel
theorem d11_check_20 : decode y11_check.2.1 20 = .ok (.putfield 28, 3) := by decide +kernel
theorem d11_check_23 : decode y11_check.2.1 23 = .ok (.aload_n 0, 1) := by decide +kernel
theorem d11_check_24 : decode y11_check.2.1 24 = .ok (.iconst 0, 1) := by decide +kernel
theorem d11_check_25 : decode y11_check.2.1 25 = .ok (.putfield 235, 3) := by decide +kernel
theorem d11_check_28 : decode y11_check.2.1 28 = .ok (.aload_n 0, 1) := by decide +kernel
theorem d11_check_29 : decode y11_check.2.1 29 = .ok (.iconst 0, 1) := by decide +kernel
theorem d11_check_30 : decode y11_check.2.1 30 = .ok (.putfield 238, 3) := by decide +kernel
theorem d11_check_33 : decode y11_check.2.1 33 = .ok (.iconst 0, 1) := by decide +kernel
theorem d11_check_34 : decode y11_check.2.1 34 = .ok (.istore_n 1, 1) := by decide +kernel
theorem d11_check_35 : decode y11_check.2.1 35 = .ok (.iload_n 1, 1) := by decide +kernel
theorem d11_check_36 : decode y11_check.2.1 36 = .ok (.aload_n 0, 1) := by decide +kernel
theorem d11_check_37 : decode y11_check.2.1 37 = .ok (.getfield 89, 3) := by decide +kernel
theorem d11_check_40 : decode y11_check.2.1 40 = .ok (.if_icmp .ge 21, 3) := by decide +kernel
theorem d11_check_43 : decode y11_check.2.1 43 = .ok (.aload_n 0, 1) := by decide +kernel
theorem d11_check_44 : decode y11_check.2.1 44 = .ok (.getfield 235, 3) := by decide +kernel
theorem d11_check_47 : decode y11_check.2.1 47 = .ok (.ifCond .ne 14, 3) := by decide +kernel
theorem d11_check_50 : decode y11_check.2.1 50 = .ok (.aload_n 0, 1) := by decide +kernel
theorem d11_check_51 : decode y11_check.2.1 51 = .ok (.iload_n 1, 1) := by decide +kernel
theorem d11_check_52 : decode y11_check.2.1 52 = .ok (.invokevirtual 263, 3) := by decide +kernel
theorem d11_check_55 : decode y11_check.2.1 55 = .ok (.iinc 1 1, 3) := by decide +kernel
theorem d11_check_58 : decode y11_check.2.1 58 = .ok (.goto (-23), 3) := by decide +kernel
theorem d11_check_61 : decode y11_check.2.1 61 = .ok (.aload_n 0, 1) := by decide +kernel
theorem d11_check_62 : decode y11_check.2.1 62 = .ok (.getfield 235, 3) := by decide +kernel
theorem d11_check_65 : decode y11_check.2.1 65 = .ok (.ifCond .ne 19, 3) := by decide +kernel
theorem d11_check_68 : decode y11_check.2.1 68 = .ok (.aload_n 0, 1) := by decide +kernel
theorem d11_check_69 : decode y11_check.2.1 69 = .ok (.getfield 77, 3) := by decide +kernel
theorem d11_check_72 : decode y11_check.2.1 72 = .ok (.iconst 0, 1) := by decide +kernel
theorem d11_check_73 : decode y11_check.2.1 73 = .ok (.iaload, 1) := by decide +kernel
theorem d11_check_74 : decode y11_check.2.1 74 = .ok (.ifCond .ge 10, 3) := by decide +kernel
theorem d11_check_77 : decode y11_check.2.1 77 = .ok (.aload_n 0, 1) := by decide +kernel
theorem d11_check_78 : decode y11_check.2.1 78 = .ok (.bipush 7, 2) := by decide +kernel
theorem d11_check_80 : decode y11_check.2.1 80 = .ok (.iconst 0, 1) := by decide +kernel
theorem d11_check_81 : decode y11_check.2.1 81 = .ok (.invokevirtual 241, 3) := by decide +kernel
theorem d11_check_84 : decode y11_check.2.1 84 = .ok (.aload_n 0, 1) := by decide +kernel
theorem d11_check_85 : decode y11_check.2.1 85 = .ok (.invokevirtual 148, 3) := by decide +kernel
theorem d11_check_88 : decode y11_check.2.1 88 = .ok (.iconst 0, 1) := by decide +kernel
theorem d11_check_89 : decode y11_check.2.1 89 = .ok (.istore_n 1, 1) := by decide +kernel
theorem d11_check_90 : decode y11_check.2.1 90 = .ok (.aload_n 0, 1) := by decide +kernel
theorem d11_check_91 : decode y11_check.2.1 91 = .ok (.getfield 235, 3) := by decide +kernel
theorem d11_check_94 : decode y11_check.2.1 94 = .ok (.ifCond .ne 57, 3) := by decide +kernel
theorem d11_check_97 : decode y11_check.2.1 97 = .ok (.iload_n 1, 1) := by decide +kernel
theorem d11_check_98 : decode y11_check.2.1 98 = .ok (.aload_n 0, 1) := by decide +kernel
theorem d11_check_99 : decode y11_check.2.1 99 = .ok (.getfield 77, 3) := by decide +kernel
theorem d11_check_102 : decode y11_check.2.1 102 = .ok (.iconst 0, 1) := by decide +kernel
theorem d11_check_103 : decode y11_check.2.1 103 = .ok (.iaload, 1) := by decide +kernel
theorem d11_check_104 : decode y11_check.2.1 104 = .ok (.if_icmp .ge 47, 3) := by decide +kernel
theorem d11_check_107 : decode y11_check.2.1 107 = .ok (.aload_n 0, 1) := by decide +kernel
theorem d11_check_108 : decode y11_check.2.1 108 = .ok (.getfield 74, 3) := by decide +kernel
theorem d11_check_111 : decode y11_check.2.1 111 = .ok (.iconst 0, 1) := by decide +kernel
theorem d11_check_112 : decode y11_check.2.1 112 = .ok (.iaload, 1) := by decide +kernel
theorem d11_check_113 : decode y11_check.2.1 113 = .ok (.iconst 3, 1) := by decide +kernel
theorem d11_check_114 : decode y11_check.2.1 114 = .ok (.iload_n 1, 1) := by decide +kernel
theorem d11_check_115 : decode y11_check.2.1 115 = .ok (.imul, 1) := by decide +kernel
theorem d11_check_116 : decode y11_check.2.1 116 = .ok (.iadd, 1) := by decide +kernel
theorem d11_check_117 : decode y11_check.2.1 117 = .ok (.istore_n 2, 1) := by decide +kernel
theorem d11_check_118 : decode y11_check.2.1 118 = .ok (.aload_n 0, 1) := by decide +kernel
theorem d11_check_119 : decode y11_check.2.1 119 = .ok (.aload_n 0, 1) := by decide +kernel
theorem d11_check_120 : decode y11_check.2.1 120 = .ok (.getfield 25, 3) := by decide +kernel
theorem d11_check_123 : decode y11_check.2.1 123 = .ok (.iload_n 2, 1) := by decide +kernel
theorem d11_check_124 : decode y11_check.2.1 124 = .ok (.iaload, 1) := by decide +kernel
theorem d11_check_125 : decode y11_check.2.1 125 = .ok (.aload_n 0, 1) := by decide +kernel
theorem d11_check_126 : decode y11_check.2.1 126 = .ok (.getfield 25, 3) := by decide +kernel
theorem d11_check_129 : decode y11_check.2.1 129 = .ok (.iload_n 2, 1) := by decide +kernel
theorem d11_check_130 : decode y11_check.2.1 130 = .ok (.iconst 1, 1) := by decide +kernel
theorem d11_check_131 : decode y11_check.2.1 131 = .ok (.iadd, 1) := by decide +kernel
theorem d11_check_132 : decode y11_check.2.1 132 = .ok (.iaload, 1) := by decide +kernel
theorem d11_check_133 : decode y11_check.2.1 133 = .ok (.aload_n 0, 1) := by decide +kernel
theorem d11_check_134 : decode y11_check.2.1 134 = .ok (.getfield 25, 3) := by decide +kernel
theorem d11_check_137 : decode y11_check.2.1 137 = .ok (.iload_n 2, 1) := by decide +kernel
theorem d11_check_138 : decode y11_check.2.1 138 = .ok (.iconst 2, 1) := by decide +kernel
theorem d11_check_139 : decode y11_check.2.1 139 = .ok (.iadd, 1) := by decide +kernel
theorem d11_check_140 : decode y11_check.2.1 140 = .ok (.iaload, 1) := by decide +kernel
theorem d11_check_141 : decode y11_check.2.1 141 = .ok (.i2l, 1) := by decide +kernel
theorem d11_check_142 : decode y11_check.2.1 142 = .ok (.invokevirtual 253, 3) := by decide +kernel
theorem d11_check_145 : decode y11_check.2.1 145 = .ok (.iinc 1 1, 3) := by decide +kernel
theorem d11_check_148 : decode y11_check.2.1 148 = .ok (.goto (-58), 3) := by decide +kernel
theorem d11_check_151 : decode y11_check.2.1 151 = .ok (.iconst 0, 1) := by decide +kernel
theorem d11_check_152 : decode y11_check.2.1 152 = .ok (.istore_n 1, 1) := by decide +kernel
theorem d11_check_153 : decode y11_check.2.1 153 = .ok (.iload_n 1, 1) := by decide +kernel
theorem d11_check_154 : decode y11_check.2.1 154 = .ok (.aload_n 0, 1) := by decide +kernel
theorem d11_check_155 : decode y11_check.2.1 155 = .ok (.getfield 89, 3) := by decide +kernel
theorem d11_check_158 : decode y11_check.2.1 158 = .ok (.if_icmp .ge 30, 3) := by decide +kernel
theorem d11_check_161 : decode y11_check.2.1 161 = .ok (.aload_n 0, 1) := by decide +kernel
theorem d11_check_162 : decode y11_check.2.1 162 = .ok (.getfield 235, 3) := by decide +kernel
theorem d11_check_165 : decode y11_check.2.1 165 = .ok (.ifCond .ne 23, 3) := by decide +kernel
theorem d11_check_168 : decode y11_check.2.1 168 = .ok (.aload_n 0, 1) := by decide +kernel
theorem d11_check_169 : decode y11_check.2.1 169 = .ok (.getfield 77, 3) := by decide +kernel
theorem d11_check_172 : decode y11_check.2.1 172 = .ok (.iload_n 1, 1) := by decide +kernel
theorem d11_check_173 : decode y11_check.2.1 173 = .ok (.iaload, 1) := by decide +kernel
theorem d11_check_174 : decode y11_check.2.1 174 = .ok (.ifCond .lt 8, 3) := by decide +kernel
theorem d11_check_177 : decode y11_check.2.1 177 = .ok (.aload_n 0, 1) := by decide +kernel
theorem d11_check_178 : decode y11_check.2.1 178 = .ok (.iload_n 1, 1) := by decide +kernel
theorem d11_check_179 : decode y11_check.2.1 179 = .ok (.invokevirtual 266, 3) := by decide +kernel
theorem d11_check_182 : decode y11_check.2.1 182 = .ok (.iinc 1 1, 3) := by decide +kernel
theorem d11_check_185 : decode y11_check.2.1 185 = .ok (.goto (-32), 3) := by decide +kernel
theorem d11_check_188 : decode y11_check.2.1 188 = .ok (.aload_n 0, 1) := by decide +kernel
theorem d11_check_189 : decode y11_check.2.1 189 = .ok (.getfield 235, 3) := by decide +kernel
theorem d11_check_192 : decode y11_check.2.1 192 = .ok (.ifCond .ne 24, 3) := by decide +kernel
theorem d11_check_195 : decode y11_check.2.1 195 = .ok (.aload_n 0, 1) := by decide +kernel
theorem d11_check_196 : decode y11_check.2.1 196 = .ok (.getfield 238, 3) := by decide +kernel
theorem d11_check_199 : decode y11_check.2.1 199 = .ok (.aload_n 0, 1) := by decide +kernel
theorem d11_check_200 : decode y11_check.2.1 200 = .ok (.getfield 217, 3) := by decide +kernel
theorem d11_check_203 : decode y11_check.2.1 203 = .ok (.if_icmp .ge 13, 3) := by decide +kernel
theorem d11_check_206 : decode y11_check.2.1 206 = .ok (.aload_n 0, 1) := by decide +kernel
theorem d11_check_207 : decode y11_check.2.1 207 = .ok (.bipush 8, 2) := by decide +kernel
theorem d11_check_209 : decode y11_check.2.1 209 = .ok (.aload_n 0, 1) := by decide +kernel
theorem d11_check_210 : decode y11_check.2.1 210 = .ok (.getfield 238, 3) := by decide +kernel
theorem d11_check_213 : decode y11_check.2.1 213 = .ok (.invokevirtual 241, 3) := by decide +kernel
theorem d11_check_216 : decode y11_check.2.1 216 = .ok (.aload_n 0, 1) := by decide +kernel
theorem d11_check_217 : decode y11_check.2.1 217 = .ok (.getfield 235, 3) := by decide +kernel
theorem d11_check_220 : decode y11_check.2.1 220 = .ok (.ineg, 1) := by decide +kernel
theorem d11_check_221 : decode y11_check.2.1 221 = .ok (.ireturn, 1) := by decide +kernel
theorem d11_readFacts_0 : decode y11_readFacts.2.1 0 = .ok (.aload_n 0, 1) := by decide +kernel
theorem d11_readFacts_1 : decode y11_readFacts.2.1 1 = .ok (.iconst (-1), 1) := by decide +kernel
theorem d11_readFacts_2 : decode y11_readFacts.2.1 2 = .ok (.bipush 24, 2) := by decide +kernel
theorem d11_readFacts_4 : decode y11_readFacts.2.1 4 = .ok (.invokevirtual 247, 3) := by decide +kernel
theorem d11_readFacts_7 : decode y11_readFacts.2.1 7 = .ok (.istore_n 2, 1) := by decide +kernel
theorem d11_readFacts_8 : decode y11_readFacts.2.1 8 = .ok (.aload_n 0, 1) := by decide +kernel
theorem d11_readFacts_9 : decode y11_readFacts.2.1 9 = .ok (.getfield 77, 3) := by decide +kernel
theorem d11_readFacts_12 : decode y11_readFacts.2.1 12 = .ok (.iload_n 1, 1) := by decide +kernel
theorem d11_readFacts_13 : decode y11_readFacts.2.1 13 = .ok (.iload_n 2, 1) := by decide +kernel
theorem d11_readFacts_14 : decode y11_readFacts.2.1 14 = .ok (.iastore, 1) := by decide +kernel
theorem d11_readFacts_15 : decode y11_readFacts.2.1 15 = .ok (.aload_n 0, 1) := by decide +kernel
theorem d11_readFacts_16 : decode y11_readFacts.2.1 16 = .ok (.getfield 74, 3) := by decide +kernel
theorem d11_readFacts_19 : decode y11_readFacts.2.1 19 = .ok (.iload_n 1, 1) := by decide +kernel
theorem d11_readFacts_20 : decode y11_readFacts.2.1 20 = .ok (.aload_n 0, 1) := by decide +kernel
theorem d11_readFacts_21 : decode y11_readFacts.2.1 21 = .ok (.getfield 238, 3) := by decide +kernel
theorem d11_readFacts_24 : decode y11_readFacts.2.1 24 = .ok (.iastore, 1) := by decide +kernel
theorem d11_readFacts_25 : decode y11_readFacts.2.1 25 = .ok (.iconst 0, 1) := by decide +kernel
theorem d11_readFacts_26 : decode y11_readFacts.2.1 26 = .ok (.istore_n 3, 1) := by decide +kernel
theorem d11_readFacts_27 : decode y11_readFacts.2.1 27 = .ok (.iload_n 3, 1) := by decide +kernel
theorem d11_readFacts_28 : decode y11_readFacts.2.1 28 = .ok (.iload_n 2, 1) := by decide +kernel
theorem d11_readFacts_29 : decode y11_readFacts.2.1 29 = .ok (.if_icmp .ge 64, 3) := by decide +kernel
theorem d11_readFacts_32 : decode y11_readFacts.2.1 32 = .ok (.aload_n 0, 1) := by decide +kernel
theorem d11_readFacts_33 : decode y11_readFacts.2.1 33 = .ok (.getfield 235, 3) := by decide +kernel
theorem d11_readFacts_36 : decode y11_readFacts.2.1 36 = .ok (.ifCond .ne 57, 3) := by decide +kernel
theorem d11_readFacts_39 : decode y11_readFacts.2.1 39 = .ok (.aload_n 0, 1) := by decide +kernel
theorem d11_readFacts_40 : decode y11_readFacts.2.1 40 = .ok (.iconst 0, 1) := by decide +kernel
theorem d11_readFacts_41 : decode y11_readFacts.2.1 41 = .ok (.bipush 9, 2) := by decide +kernel
theorem d11_readFacts_43 : decode y11_readFacts.2.1 43 = .ok (.invokevirtual 247, 3) := by decide +kernel
theorem d11_readFacts_46 : decode y11_readFacts.2.1 46 = .ok (.istore 4, 2) := by decide +kernel
theorem d11_readFacts_48 : decode y11_readFacts.2.1 48 = .ok (.aload_n 0, 1) := by decide +kernel
theorem d11_readFacts_49 : decode y11_readFacts.2.1 49 = .ok (.iconst 0, 1) := by decide +kernel
theorem d11_readFacts_50 : decode y11_readFacts.2.1 50 = .ok (.bipush 9, 2) := by decide +kernel
theorem d11_readFacts_52 : decode y11_readFacts.2.1 52 = .ok (.invokevirtual 247, 3) := by decide +kernel
theorem d11_readFacts_55 : decode y11_readFacts.2.1 55 = .ok (.istore 5, 2) := by decide +kernel
theorem d11_readFacts_57 : decode y11_readFacts.2.1 57 = .ok (.aload_n 0, 1) := by decide +kernel
theorem d11_readFacts_58 : decode y11_readFacts.2.1 58 = .ok (.getfield 235, 3) := by decide +kernel
theorem d11_readFacts_61 : decode y11_readFacts.2.1 61 = .ok (.ifCond .ne 21, 3) := by decide +kernel
theorem d11_readFacts_64 : decode y11_readFacts.2.1 64 = .ok (.iload 4, 2) := by decide +kernel
theorem d11_readFacts_66 : decode y11_readFacts.2.1 66 = .ok (.iload 5, 2) := by decide +kernel
theorem d11_readFacts_68 : decode y11_readFacts.2.1 68 = .ok (.if_icmp .ne 14, 3) := by decide +kernel
theorem d11_readFacts_71 : decode y11_readFacts.2.1 71 = .ok (.aload_n 0, 1) := by decide +kernel
theorem d11_readFacts_72 : decode y11_readFacts.2.1 72 = .ok (.iconst 3, 1) := by decide +kernel
theorem d11_readFacts_73 : decode y11_readFacts.2.1 73 = .ok (.aload_n 0, 1) := by decide +kernel
theorem d11_readFacts_74 : decode y11_readFacts.2.1 74 = .ok (.getfield 238, 3) := by decide +kernel
theorem d11_readFacts_77 : decode y11_readFacts.2.1 77 = .ok (.iconst 1, 1) := by decide +kernel
theorem d11_readFacts_78 : decode y11_readFacts.2.1 78 = .ok (.isub, 1) := by decide +kernel
theorem d11_readFacts_79 : decode y11_readFacts.2.1 79 = .ok (.invokevirtual 241, 3) := by decide +kernel
theorem d11_readFacts_82 : decode y11_readFacts.2.1 82 = .ok (.aload_n 0, 1) := by decide +kernel
theorem d11_readFacts_83 : decode y11_readFacts.2.1 83 = .ok (.invokevirtual 244, 3) := by decide +kernel
theorem d11_readFacts_86 : decode y11_readFacts.2.1 86 = .ok (.pop, 1) := by decide +kernel
theorem d11_readFacts_87 : decode y11_readFacts.2.1 87 = .ok (.iinc 3 1, 3) := by decide +kernel
theorem d11_readFacts_90 : decode y11_readFacts.2.1 90 = .ok (.goto (-63), 3) := by decide +kernel
theorem d11_readFacts_93 : decode y11_readFacts.2.1 93 = .ok (.return_, 1) := by decide +kernel
theorem d11_readIn_0 : decode y11_readIn.2.1 0 = .ok (.aload_n 0, 1) := by decide +kernel
theorem d11_readIn_1 : decode y11_readIn.2.1 1 = .ok (.invokevirtual 244, 3) := by decide +kernel
theorem d11_readIn_4 : decode y11_readIn.2.1 4 = .ok (.istore_n 3, 1) := by decide +kernel
theorem d11_readIn_5 : decode y11_readIn.2.1 5 = .ok (.aload_n 0, 1) := by decide +kernel
theorem d11_readIn_6 : decode y11_readIn.2.1 6 = .ok (.getfield 235, 3) := by decide +kernel
theorem d11_readIn_9 : decode y11_readIn.2.1 9 = .ok (.ifCond .ne 24, 3) := by decide +kernel
theorem d11_readIn_12 : decode y11_readIn.2.1 12 = .ok (.iload_n 3, 1) := by decide +kernel
theorem d11_readIn_13 : decode y11_readIn.2.1 13 = .ok (.iload_n 1, 1) := by decide +kernel
theorem d11_readIn_14 : decode y11_readIn.2.1 14 = .ok (.if_icmp .lt 8, 3) := by decide +kernel
theorem d11_readIn_17 : decode y11_readIn.2.1 17 = .ok (.iload_n 3, 1) := by decide +kernel
theorem d11_readIn_18 : decode y11_readIn.2.1 18 = .ok (.iload_n 2, 1) := by decide +kernel
theorem d11_readIn_19 : decode y11_readIn.2.1 19 = .ok (.if_icmp .le 14, 3) := by decide +kernel
theorem d11_readIn_22 : decode y11_readIn.2.1 22 = .ok (.aload_n 0, 1) := by decide +kernel
theorem d11_readIn_23 : decode y11_readIn.2.1 23 = .ok (.iconst 3, 1) := by decide +kernel
theorem d11_readIn_24 : decode y11_readIn.2.1 24 = .ok (.aload_n 0, 1) := by decide +kernel
theorem d11_readIn_25 : decode y11_readIn.2.1 25 = .ok (.getfield 238, 3) := by decide +kernel
theorem d11_readIn_28 : decode y11_readIn.2.1 28 = .ok (.iconst 1, 1) := by decide +kernel
theorem d11_readIn_29 : decode y11_readIn.2.1 29 = .ok (.isub, 1) := by decide +kernel
theorem d11_readIn_30 : decode y11_readIn.2.1 30 = .ok (.invokevirtual 241, 3) := by decide +kernel
theorem d11_readIn_33 : decode y11_readIn.2.1 33 = .ok (.iload_n 3, 1) := by decide +kernel
theorem d11_readIn_34 : decode y11_readIn.2.1 34 = .ok (.ireturn, 1) := by decide +kernel
theorem d11_read_0 : decode y11_read.2.1 0 = .ok (.aload_n 0, 1) := by decide +kernel
theorem d11_read_1 : decode y11_read.2.1 1 = .ok (.getfield 235, 3) := by decide +kernel
theorem d11_read_4 : decode y11_read.2.1 4 = .ok (.ifCond .eq 5, 3) := by decide +kernel
theorem d11_read_7 : decode y11_read.2.1 7 = .ok (.iconst 0, 1) := by decide +kernel
theorem d11_read_8 : decode y11_read.2.1 8 = .ok (.ireturn, 1) := by decide +kernel
theorem d11_read_9 : decode y11_read.2.1 9 = .ok (.aload_n 0, 1) := by decide +kernel
theorem d11_read_10 : decode y11_read.2.1 10 = .ok (.getfield 238, 3) := by decide +kernel
theorem d11_read_13 : decode y11_read.2.1 13 = .ok (.aload_n 0, 1) := by decide +kernel
theorem d11_read_14 : decode y11_read.2.1 14 = .ok (.getfield 217, 3) := by decide +kernel
theorem d11_read_17 : decode y11_read.2.1 17 = .ok (.if_icmp .ne 14, 3) := by decide +kernel
theorem d11_read_20 : decode y11_read.2.1 20 = .ok (.aload_n 0, 1) := by decide +kernel
theorem d11_read_21 : decode y11_read.2.1 21 = .ok (.iconst 2, 1) := by decide +kernel
theorem d11_read_22 : decode y11_read.2.1 22 = .ok (.aload_n 0, 1) := by decide +kernel
theorem d11_read_23 : decode y11_read.2.1 23 = .ok (.getfield 217, 3) := by decide +kernel
theorem d11_read_26 : decode y11_read.2.1 26 = .ok (.invokevirtual 241, 3) := by decide +kernel
theorem d11_read_29 : decode y11_read.2.1 29 = .ok (.iconst 0, 1) := by decide +kernel
theorem d11_read_30 : decode y11_read.2.1 30 = .ok (.ireturn, 1) := by decide +kernel
theorem d11_read_31 : decode y11_read.2.1 31 = .ok (.aload_n 0, 1) := by decide +kernel
theorem d11_read_32 : decode y11_read.2.1 32 = .ok (.dup, 1) := by decide +kernel
theorem d11_read_33 : decode y11_read.2.1 33 = .ok (.getfield 238, 3) := by decide +kernel
theorem d11_read_36 : decode y11_read.2.1 36 = .ok (.iconst 1, 1) := by decide +kernel
theorem d11_read_37 : decode y11_read.2.1 37 = .ok (.iadd, 1) := by decide +kernel
theorem d11_read_38 : decode y11_read.2.1 38 = .ok (.putfield 238, 3) := by decide +kernel
theorem d11_read_41 : decode y11_read.2.1 41 = .ok (.aload_n 0, 1) := by decide +kernel
theorem d11_read_42 : decode y11_read.2.1 42 = .ok (.getfield 25, 3) := by decide +kernel
theorem d11_read_45 : decode y11_read.2.1 45 = .ok (.aload_n 0, 1) := by decide +kernel
theorem d11_read_46 : decode y11_read.2.1 46 = .ok (.getfield 238, 3) := by decide +kernel
theorem d11_read_49 : decode y11_read.2.1 49 = .ok (.iconst 1, 1) := by decide +kernel
theorem d11_read_50 : decode y11_read.2.1 50 = .ok (.isub, 1) := by decide +kernel
theorem d11_read_51 : decode y11_read.2.1 51 = .ok (.iaload, 1) := by decide +kernel
theorem d11_read_52 : decode y11_read.2.1 52 = .ok (.ireturn, 1) := by decide +kernel
theorem d11_fail_0 : decode y11_fail.2.1 0 = .ok (.aload_n 0, 1) := by decide +kernel
theorem d11_fail_1 : decode y11_fail.2.1 1 = .ok (.getfield 235, 3) := by decide +kernel
theorem d11_fail_4 : decode y11_fail.2.1 4 = .ok (.ifCond .eq 4, 3) := by decide +kernel
theorem d11_fail_7 : decode y11_fail.2.1 7 = .ok (.return_, 1) := by decide +kernel
theorem d11_fail_8 : decode y11_fail.2.1 8 = .ok (.aload_n 0, 1) := by decide +kernel
theorem d11_fail_9 : decode y11_fail.2.1 9 = .ok (.iload_n 1, 1) := by decide +kernel
theorem d11_fail_10 : decode y11_fail.2.1 10 = .ok (.putfield 235, 3) := by decide +kernel
theorem d11_fail_13 : decode y11_fail.2.1 13 = .ok (.aload_n 0, 1) := by decide +kernel
theorem d11_fail_14 : decode y11_fail.2.1 14 = .ok (.iload_n 2, 1) := by decide +kernel
theorem d11_fail_15 : decode y11_fail.2.1 15 = .ok (.putfield 28, 3) := by decide +kernel
theorem d11_fail_18 : decode y11_fail.2.1 18 = .ok (.return_, 1) := by decide +kernel
theorem d11_readReason_0 : decode y11_readReason.2.1 0 = .ok (.aload_n 0, 1) := by decide +kernel
theorem d11_readReason_1 : decode y11_readReason.2.1 1 = .ok (.iconst 1, 1) := by decide +kernel
theorem d11_readReason_2 : decode y11_readReason.2.1 2 = .ok (.bipush 12, 2) := by decide +kernel
theorem d11_readReason_4 : decode y11_readReason.2.1 4 = .ok (.invokevirtual 247, 3) := by decide +kernel
theorem d11_readReason_7 : decode y11_readReason.2.1 7 = .ok (.istore 5, 2) := by decide +kernel
theorem d11_readReason_9 : decode y11_readReason.2.1 9 = .ok (.aload_n 0, 1) := by decide +kernel
theorem d11_readReason_10 : decode y11_readReason.2.1 10 = .ok (.getfield 238, 3) := by decide +kernel
theorem d11_readReason_13 : decode y11_readReason.2.1 13 = .ok (.iconst 1, 1) := by decide +kernel
theorem d11_readReason_14 : decode y11_readReason.2.1 14 = .ok (.isub, 1) := by decide +kernel
theorem d11_readReason_15 : decode y11_readReason.2.1 15 = .ok (.istore 6, 2) := by decide +kernel
theorem d11_readReason_17 : decode y11_readReason.2.1 17 = .ok (.iload_n 1, 1) := by decide +kernel
theorem d11_readReason_18 : decode y11_readReason.2.1 18 = .ok (.istore 7, 2) := by decide +kernel
theorem d11_readReason_20 : decode y11_readReason.2.1 20 = .ok (.lconst 0, 1) := by decide +kernel
theorem d11_readReason_21 : decode y11_readReason.2.1 21 = .ok (.lstore 8, 2) := by decide +kernel
theorem d11_readReason_23 : decode y11_readReason.2.1 23 = .ok (.iconst 0, 1) := by decide +kernel
theorem d11_readReason_24 : decode y11_readReason.2.1 24 = .ok (.istore 10, 2) := by decide +kernel
theorem d11_readReason_26 : decode y11_readReason.2.1 26 = .ok (.iload 10, 2) := by decide +kernel
theorem d11_readReason_28 : decode y11_readReason.2.1 28 = .ok (.iload 5, 2) := by decide +kernel
theorem d11_readReason_30 : decode y11_readReason.2.1 30 = .ok (.if_icmp .ge 145, 3) := by decide +kernel
theorem d11_readReason_33 : decode y11_readReason.2.1 33 = .ok (.aload_n 0, 1) := by decide +kernel
theorem d11_readReason_34 : decode y11_readReason.2.1 34 = .ok (.getfield 235, 3) := by decide +kernel
theorem d11_readReason_37 : decode y11_readReason.2.1 37 = .ok (.ifCond .ne 138, 3) := by decide +kernel
theorem d11_readReason_40 : decode y11_readReason.2.1 40 = .ok (.aload_n 0, 1) := by decide +kernel
theorem d11_readReason_41 : decode y11_readReason.2.1 41 = .ok (.invokevirtual 244, 3) := by decide +kernel
theorem d11_readReason_44 : decode y11_readReason.2.1 44 = .ok (.istore 11, 2) := by decide +kernel
theorem d11_readReason_46 : decode y11_readReason.2.1 46 = .ok (.aload_n 0, 1) := by decide +kernel
theorem d11_readReason_47 : decode y11_readReason.2.1 47 = .ok (.getfield 235, 3) := by decide +kernel
theorem d11_readReason_50 : decode y11_readReason.2.1 50 = .ok (.ifCond .eq 4, 3) := by decide +kernel
theorem d11_readReason_53 : decode y11_readReason.2.1 53 = .ok (.return_, 1) := by decide +kernel
theorem d11_readReason_54 : decode y11_readReason.2.1 54 = .ok (.iconst 0, 1) := by decide +kernel
theorem d11_readReason_55 : decode y11_readReason.2.1 55 = .ok (.istore 12, 2) := by decide +kernel
theorem d11_readReason_57 : decode y11_readReason.2.1 57 = .ok (.iload 12, 2) := by decide +kernel
theorem d11_readReason_59 : decode y11_readReason.2.1 59 = .ok (.aload_n 0, 1) := by decide +kernel
theorem d11_readReason_60 : decode y11_readReason.2.1 60 = .ok (.getfield 100, 3) := by decide +kernel
theorem d11_readReason_63 : decode y11_readReason.2.1 63 = .ok (.if_icmp .ge 21, 3) := by decide +kernel
theorem d11_readReason_66 : decode y11_readReason.2.1 66 = .ok (.aload_n 0, 1) := by decide +kernel
theorem d11_readReason_67 : decode y11_readReason.2.1 67 = .ok (.getfield 36, 3) := by decide +kernel
theorem d11_readReason_70 : decode y11_readReason.2.1 70 = .ok (.iload 12, 2) := by decide +kernel
theorem d11_readReason_72 : decode y11_readReason.2.1 72 = .ok (.iaload, 1) := by decide +kernel
theorem d11_readReason_73 : decode y11_readReason.2.1 73 = .ok (.iload 11, 2) := by decide +kernel
theorem d11_readReason_75 : decode y11_readReason.2.1 75 = .ok (.if_icmp .eq 9, 3) := by decide +kernel
theorem d11_readReason_78 : decode y11_readReason.2.1 78 = .ok (.iinc 12 1, 3) := by decide +kernel
theorem d11_readReason_81 : decode y11_readReason.2.1 81 = .ok (.goto (-24), 3) := by decide +kernel
theorem d11_readReason_84 : decode y11_readReason.2.1 84 = .ok (.iload 12, 2) := by decide +kernel
theorem d11_readReason_86 : decode y11_readReason.2.1 86 = .ok (.aload_n 0, 1) := by decide +kernel
theorem d11_readReason_87 : decode y11_readReason.2.1 87 = .ok (.getfield 100, 3) := by decide +kernel
theorem d11_readReason_90 : decode y11_readReason.2.1 90 = .ok (.if_icmp .ne 15, 3) := by decide +kernel
theorem d11_readReason_93 : decode y11_readReason.2.1 93 = .ok (.aload_n 0, 1) := by decide +kernel
theorem d11_readReason_94 : decode y11_readReason.2.1 94 = .ok (.iconst 4, 1) := by decide +kernel
theorem d11_readReason_95 : decode y11_readReason.2.1 95 = .ok (.aload_n 0, 1) := by decide +kernel
theorem d11_readReason_96 : decode y11_readReason.2.1 96 = .ok (.getfield 238, 3) := by decide +kernel
theorem d11_readReason_99 : decode y11_readReason.2.1 99 = .ok (.iconst 1, 1) := by decide +kernel
theorem d11_readReason_100 : decode y11_readReason.2.1 100 = .ok (.isub, 1) := by decide +kernel
theorem d11_readReason_101 : decode y11_readReason.2.1 101 = .ok (.invokevirtual 241, 3) := by decide +kernel
theorem d11_readReason_104 : decode y11_readReason.2.1 104 = .ok (.return_, 1) := by decide +kernel
theorem d11_readReason_105 : decode y11_readReason.2.1 105 = .ok (.aload_n 0, 1) := by decide +kernel
theorem d11_readReason_106 : decode y11_readReason.2.1 106 = .ok (.getfield 39, 3) := by decide +kernel
theorem d11_readReason_109 : decode y11_readReason.2.1 109 = .ok (.iload 12, 2) := by decide +kernel
theorem d11_readReason_111 : decode y11_readReason.2.1 111 = .ok (.iaload, 1) := by decide +kernel
theorem d11_readReason_112 : decode y11_readReason.2.1 112 = .ok (.iload 7, 2) := by decide +kernel
theorem d11_readReason_114 : decode y11_readReason.2.1 114 = .ok (.if_icmp .ne 23, 3) := by decide +kernel
theorem d11_readReason_117 : decode y11_readReason.2.1 117 = .ok (.iload 10, 2) := by decide +kernel
theorem d11_readReason_119 : decode y11_readReason.2.1 119 = .ok (.iload 5, 2) := by decide +kernel
theorem d11_readReason_121 : decode y11_readReason.2.1 121 = .ok (.iconst 1, 1) := by decide +kernel
theorem d11_readReason_122 : decode y11_readReason.2.1 122 = .ok (.isub, 1) := by decide +kernel
theorem d11_readReason_123 : decode y11_readReason.2.1 123 = .ok (.if_icmp .ne 25, 3) := by decide +kernel
theorem d11_readReason_126 : decode y11_readReason.2.1 126 = .ok (.aload_n 0, 1) := by decide +kernel
theorem d11_readReason_127 : decode y11_readReason.2.1 127 = .ok (.getfield 42, 3) := by decide +kernel
theorem d11_readReason_130 : decode y11_readReason.2.1 130 = .ok (.iload 12, 2) := by decide +kernel
theorem d11_readReason_132 : decode y11_readReason.2.1 132 = .ok (.iaload, 1) := by decide +kernel
theorem d11_readReason_133 : decode y11_readReason.2.1 133 = .ok (.iload_n 2, 1) := by decide +kernel
theorem d11_readReason_134 : decode y11_readReason.2.1 134 = .ok (.if_icmp .eq 14, 3) := by decide +kernel
theorem d11_readReason_137 : decode y11_readReason.2.1 137 = .ok (.aload_n 0, 1) := by decide +kernel
theorem d11_readReason_138 : decode y11_readReason.2.1 138 = .ok (.iconst 5, 1) := by decide +kernel
theorem d11_readReason_139 : decode y11_readReason.2.1 139 = .ok (.aload_n 0, 1) := by decide +kernel
theorem d11_readReason_140 : decode y11_readReason.2.1 140 = .ok (.getfield 238, 3) := by decide +kernel
theorem d11_readReason_143 : decode y11_readReason.2.1 143 = .ok (.iconst 1, 1) := by decide +kernel
theorem d11_readReason_144 : decode y11_readReason.2.1 144 = .ok (.isub, 1) := by decide +kernel
theorem d11_readReason_145 : decode y11_readReason.2.1 145 = .ok (.invokevirtual 241, 3) := by decide +kernel
theorem d11_readReason_148 : decode y11_readReason.2.1 148 = .ok (.aload_n 0, 1) := by decide +kernel
theorem d11_readReason_149 : decode y11_readReason.2.1 149 = .ok (.getfield 42, 3) := by decide +kernel
theorem d11_readReason_152 : decode y11_readReason.2.1 152 = .ok (.iload 12, 2) := by decide +kernel
theorem d11_readReason_154 : decode y11_readReason.2.1 154 = .ok (.iaload, 1) := by decide +kernel
theorem d11_readReason_155 : decode y11_readReason.2.1 155 = .ok (.istore 7, 2) := by decide +kernel
theorem d11_readReason_157 : decode y11_readReason.2.1 157 = .ok (.lload 8, 2) := by decide +kernel
theorem d11_readReason_159 : decode y11_readReason.2.1 159 = .ok (.aload_n 0, 1) := by decide +kernel
theorem d11_readReason_160 : decode y11_readReason.2.1 160 = .ok (.getfield 45, 3) := by decide +kernel
theorem d11_readReason_163 : decode y11_readReason.2.1 163 = .ok (.iload 12, 2) := by decide +kernel
theorem d11_readReason_165 : decode y11_readReason.2.1 165 = .ok (.laload, 1) := by decide +kernel
theorem d11_readReason_166 : decode y11_readReason.2.1 166 = .ok (.ladd, 1) := by decide +kernel
theorem d11_readReason_167 : decode y11_readReason.2.1 167 = .ok (.lstore 8, 2) := by decide +kernel
theorem d11_readReason_169 : decode y11_readReason.2.1 169 = .ok (.iinc 10 1, 3) := by decide +kernel
theorem d11_readReason_172 : decode y11_readReason.2.1 172 = .ok (.goto (-146), 3) := by decide +kernel
theorem d11_readReason_175 : decode y11_readReason.2.1 175 = .ok (.aload_n 0, 1) := by decide +kernel
theorem d11_readReason_176 : decode y11_readReason.2.1 176 = .ok (.getfield 235, 3) := by decide +kernel
theorem d11_readReason_179 : decode y11_readReason.2.1 179 = .ok (.ifCond .ne 18, 3) := by decide +kernel
theorem d11_readReason_182 : decode y11_readReason.2.1 182 = .ok (.lload 8, 2) := by decide +kernel
theorem d11_readReason_184 : decode y11_readReason.2.1 184 = .ok (.lload_n 3, 1) := by decide +kernel
theorem d11_readReason_185 : decode y11_readReason.2.1 185 = .ok (.lcmp, 1) := by decide +kernel
theorem d11_readReason_186 : decode y11_readReason.2.1 186 = .ok (.ifCond .le 11, 3) := by decide +kernel
theorem d11_readReason_189 : decode y11_readReason.2.1 189 = .ok (.aload_n 0, 1) := by decide +kernel
theorem d11_readReason_190 : decode y11_readReason.2.1 190 = .ok (.bipush 6, 2) := by decide +kernel
theorem d11_readReason_192 : decode y11_readReason.2.1 192 = .ok (.iload 6, 2) := by decide +kernel
theorem d11_readReason_194 : decode y11_readReason.2.1 194 = .ok (.invokevirtual 241, 3) := by decide +kernel
theorem d11_readReason_197 : decode y11_readReason.2.1 197 = .ok (.return_, 1) := by decide +kernel
theorem d11_readInstruction_0 : decode y11_readInstruction.2.1 0 = .ok (.aload_n 0, 1) := by decide +kernel
theorem d11_readInstruction_1 : decode y11_readInstruction.2.1 1 = .ok (.iload_n 1, 1) := by decide +kernel
theorem d11_readInstruction_2 : decode y11_readInstruction.2.1 2 = .ok (.invokevirtual 190, 3) := by decide +kernel
theorem d11_readInstruction_5 : decode y11_readInstruction.2.1 5 = .ok (.ifCond .eq 57, 3) := by decide +kernel
theorem d11_readInstruction_8 : decode y11_readInstruction.2.1 8 = .ok (.aload_n 0, 1) := by decide +kernel
theorem d11_readInstruction_9 : decode y11_readInstruction.2.1 9 = .ok (.iload_n 1, 1) := by decide +kernel
theorem d11_readInstruction_10 : decode y11_readInstruction.2.1 10 = .ok (.invokevirtual 257, 3) := by decide +kernel
theorem d11_readInstruction_13 : decode y11_readInstruction.2.1 13 = .ok (.aload_n 0, 1) := by decide +kernel
theorem d11_readInstruction_14 : decode y11_readInstruction.2.1 14 = .ok (.iconst 0, 1) := by decide +kernel
theorem d11_readInstruction_15 : decode y11_readInstruction.2.1 15 = .ok (.iconst 1, 1) := by decide +kernel
theorem d11_readInstruction_16 : decode y11_readInstruction.2.1 16 = .ok (.aload_n 0, 1) := by decide +kernel
theorem d11_readInstruction_17 : decode y11_readInstruction.2.1 17 = .ok (.getfield 16, 3) := by decide +kernel
theorem d11_readInstruction_20 : decode y11_readInstruction.2.1 20 = .ok (.iload_n 1, 1) := by decide +kernel
theorem d11_readInstruction_21 : decode y11_readInstruction.2.1 21 = .ok (.iaload, 1) := by decide +kernel
theorem d11_readInstruction_22 : decode y11_readInstruction.2.1 22 = .ok (.iadd, 1) := by decide +kernel
theorem d11_readInstruction_23 : decode y11_readInstruction.2.1 23 = .ok (.aload_n 0, 1) := by decide +kernel
theorem d11_readInstruction_24 : decode y11_readInstruction.2.1 24 = .ok (.getfield 19, 3) := by decide +kernel
theorem d11_readInstruction_27 : decode y11_readInstruction.2.1 27 = .ok (.iload_n 1, 1) := by decide +kernel
theorem d11_readInstruction_28 : decode y11_readInstruction.2.1 28 = .ok (.iaload, 1) := by decide +kernel
theorem d11_readInstruction_29 : decode y11_readInstruction.2.1 29 = .ok (.i2l, 1) := by decide +kernel
theorem d11_readInstruction_30 : decode y11_readInstruction.2.1 30 = .ok (.invokevirtual 253, 3) := by decide +kernel
theorem d11_readInstruction_33 : decode y11_readInstruction.2.1 33 = .ok (.aload_n 0, 1) := by decide +kernel
theorem d11_readInstruction_34 : decode y11_readInstruction.2.1 34 = .ok (.getfield 235, 3) := by decide +kernel
theorem d11_readInstruction_37 : decode y11_readInstruction.2.1 37 = .ok (.ifCond .ne 25, 3) := by decide +kernel
theorem d11_readInstruction_40 : decode y11_readInstruction.2.1 40 = .ok (.aload_n 0, 1) := by decide +kernel
theorem d11_readInstruction_41 : decode y11_readInstruction.2.1 41 = .ok (.iconst 1, 1) := by decide +kernel
theorem d11_readInstruction_42 : decode y11_readInstruction.2.1 42 = .ok (.aload_n 0, 1) := by decide +kernel
theorem d11_readInstruction_43 : decode y11_readInstruction.2.1 43 = .ok (.getfield 16, 3) := by decide +kernel
theorem d11_readInstruction_46 : decode y11_readInstruction.2.1 46 = .ok (.iload_n 1, 1) := by decide +kernel
theorem d11_readInstruction_47 : decode y11_readInstruction.2.1 47 = .ok (.iaload, 1) := by decide +kernel
theorem d11_readInstruction_48 : decode y11_readInstruction.2.1 48 = .ok (.iadd, 1) := by decide +kernel
theorem d11_readInstruction_49 : decode y11_readInstruction.2.1 49 = .ok (.aload_n 0, 1) := by decide +kernel
theorem d11_readInstruction_50 : decode y11_readInstruction.2.1 50 = .ok (.iload_n 1, 1) := by decide +kernel
theorem d11_readInstruction_51 : decode y11_readInstruction.2.1 51 = .ok (.invokevirtual 183, 3) := by decide +kernel
theorem d11_readInstruction_54 : decode y11_readInstruction.2.1 54 = .ok (.aload_n 0, 1) := by decide +kernel
theorem d11_readInstruction_55 : decode y11_readInstruction.2.1 55 = .ok (.iload_n 1, 1) := by decide +kernel
theorem d11_readInstruction_56 : decode y11_readInstruction.2.1 56 = .ok (.invokevirtual 186, 3) := by decide +kernel
theorem d11_readInstruction_59 : decode y11_readInstruction.2.1 59 = .ok (.invokevirtual 253, 3) := by decide +kernel
theorem d11_readInstruction_62 : decode y11_readInstruction.2.1 62 = .ok (.aload_n 0, 1) := by decide +kernel
theorem d11_readInstruction_63 : decode y11_readInstruction.2.1 63 = .ok (.iload_n 1, 1) := by decide +kernel
theorem d11_readInstruction_64 : decode y11_readInstruction.2.1 64 = .ok (.iconst 0, 1) := by decide +kernel
theorem d11_readInstruction_65 : decode y11_readInstruction.2.1 65 = .ok (.invokevirtual 260, 3) := by decide +kernel
theorem d11_readInstruction_68 : decode y11_readInstruction.2.1 68 = .ok (.aload_n 0, 1) := by decide +kernel
theorem d11_readInstruction_69 : decode y11_readInstruction.2.1 69 = .ok (.iload_n 1, 1) := by decide +kernel
theorem d11_readInstruction_70 : decode y11_readInstruction.2.1 70 = .ok (.iconst 1, 1) := by decide +kernel
theorem d11_readInstruction_71 : decode y11_readInstruction.2.1 71 = .ok (.invokevirtual 260, 3) := by decide +kernel
theorem d11_readInstruction_74 : decode y11_readInstruction.2.1 74 = .ok (.return_, 1) := by decide +kernel
theorem d11_plainSteps_0 : decode y11_plainSteps.2.1 0 = .ok (.aload_n 0, 1) := by decide +kernel
theorem d11_plainSteps_1 : decode y11_plainSteps.2.1 1 = .ok (.iconst 0, 1) := by decide +kernel
theorem d11_plainSteps_2 : decode y11_plainSteps.2.1 2 = .ok (.putfield 92, 3) := by decide +kernel
theorem d11_plainSteps_5 : decode y11_plainSteps.2.1 5 = .ok (.aload_n 0, 1) := by decide +kernel
theorem d11_plainSteps_6 : decode y11_plainSteps.2.1 6 = .ok (.iconst 0, 1) := by decide +kernel
theorem d11_plainSteps_7 : decode y11_plainSteps.2.1 7 = .ok (.putfield 100, 3) := by decide +kernel
theorem d11_plainSteps_10 : decode y11_plainSteps.2.1 10 = .ok (.iconst 0, 1) := by decide +kernel
theorem d11_plainSteps_11 : decode y11_plainSteps.2.1 11 = .ok (.istore_n 2, 1) := by decide +kernel
theorem d11_plainSteps_12 : decode y11_plainSteps.2.1 12 = .ok (.iload_n 2, 1) := by decide +kernel
theorem d11_plainSteps_13 : decode y11_plainSteps.2.1 13 = .ok (.aload_n 0, 1) := by decide +kernel
theorem d11_plainSteps_14 : decode y11_plainSteps.2.1 14 = .ok (.getfield 77, 3) := by decide +kernel
theorem d11_plainSteps_17 : decode y11_plainSteps.2.1 17 = .ok (.iload_n 1, 1) := by decide +kernel
theorem d11_plainSteps_18 : decode y11_plainSteps.2.1 18 = .ok (.iaload, 1) := by decide +kernel
theorem d11_plainSteps_19 : decode y11_plainSteps.2.1 19 = .ok (.if_icmp .ge 48, 3) := by decide +kernel
theorem d11_plainSteps_22 : decode y11_plainSteps.2.1 22 = .ok (.aload_n 0, 1) := by decide +kernel
theorem d11_plainSteps_23 : decode y11_plainSteps.2.1 23 = .ok (.getfield 74, 3) := by decide +kernel
theorem d11_plainSteps_26 : decode y11_plainSteps.2.1 26 = .ok (.iload_n 1, 1) := by decide +kernel
theorem d11_plainSteps_27 : decode y11_plainSteps.2.1 27 = .ok (.iaload, 1) := by decide +kernel
theorem d11_plainSteps_28 : decode y11_plainSteps.2.1 28 = .ok (.iconst 3, 1) := by decide +kernel
theorem d11_plainSteps_29 : decode y11_plainSteps.2.1 29 = .ok (.iload_n 2, 1) := by decide +kernel
theorem d11_plainSteps_30 : decode y11_plainSteps.2.1 30 = .ok (.imul, 1) := by decide +kernel
theorem d11_plainSteps_31 : decode y11_plainSteps.2.1 31 = .ok (.iadd, 1) := by decide +kernel
theorem d11_plainSteps_32 : decode y11_plainSteps.2.1 32 = .ok (.istore_n 3, 1) := by decide +kernel
theorem d11_plainSteps_33 : decode y11_plainSteps.2.1 33 = .ok (.aload_n 0, 1) := by decide +kernel
theorem d11_plainSteps_34 : decode y11_plainSteps.2.1 34 = .ok (.iload_n 2, 1) := by decide +kernel
theorem d11_plainSteps_35 : decode y11_plainSteps.2.1 35 = .ok (.aload_n 0, 1) := by decide +kernel
theorem d11_plainSteps_36 : decode y11_plainSteps.2.1 36 = .ok (.getfield 25, 3) := by decide +kernel
theorem d11_plainSteps_39 : decode y11_plainSteps.2.1 39 = .ok (.iload_n 3, 1) := by decide +kernel
theorem d11_plainSteps_40 : decode y11_plainSteps.2.1 40 = .ok (.iaload, 1) := by decide +kernel
theorem d11_plainSteps_41 : decode y11_plainSteps.2.1 41 = .ok (.aload_n 0, 1) := by decide +kernel
theorem d11_plainSteps_42 : decode y11_plainSteps.2.1 42 = .ok (.getfield 25, 3) := by decide +kernel
theorem d11_plainSteps_45 : decode y11_plainSteps.2.1 45 = .ok (.iload_n 3, 1) := by decide +kernel
theorem d11_plainSteps_46 : decode y11_plainSteps.2.1 46 = .ok (.iconst 1, 1) := by decide +kernel
theorem d11_plainSteps_47 : decode y11_plainSteps.2.1 47 = .ok (.iadd, 1) := by decide +kernel
theorem d11_plainSteps_48 : decode y11_plainSteps.2.1 48 = .ok (.iaload, 1) := by decide +kernel
theorem d11_plainSteps_49 : decode y11_plainSteps.2.1 49 = .ok (.aload_n 0, 1) := by decide +kernel
theorem d11_plainSteps_50 : decode y11_plainSteps.2.1 50 = .ok (.getfield 25, 3) := by decide +kernel
theorem d11_plainSteps_53 : decode y11_plainSteps.2.1 53 = .ok (.iload_n 3, 1) := by decide +kernel
theorem d11_plainSteps_54 : decode y11_plainSteps.2.1 54 = .ok (.iconst 2, 1) := by decide +kernel
theorem d11_plainSteps_55 : decode y11_plainSteps.2.1 55 = .ok (.iadd, 1) := by decide +kernel
theorem d11_plainSteps_56 : decode y11_plainSteps.2.1 56 = .ok (.iaload, 1) := by decide +kernel
theorem d11_plainSteps_57 : decode y11_plainSteps.2.1 57 = .ok (.i2l, 1) := by decide +kernel
theorem d11_plainSteps_58 : decode y11_plainSteps.2.1 58 = .ok (.invokevirtual 107, 3) := by decide +kernel
theorem d11_plainSteps_61 : decode y11_plainSteps.2.1 61 = .ok (.iinc 2 1, 3) := by decide +kernel
theorem d11_plainSteps_64 : decode y11_plainSteps.2.1 64 = .ok (.goto (-52), 3) := by decide +kernel
theorem d11_plainSteps_67 : decode y11_plainSteps.2.1 67 = .ok (.return_, 1) := by decide +kernel
theorem d11_readEdge_0 : decode y11_readEdge.2.1 0 = .ok (.aload_n 0, 1) := by decide +kernel
theorem d11_readEdge_1 : decode y11_readEdge.2.1 1 = .ok (.iload_n 1, 1) := by decide +kernel
theorem d11_readEdge_2 : decode y11_readEdge.2.1 2 = .ok (.iload_n 2, 1) := by decide +kernel
theorem d11_readEdge_3 : decode y11_readEdge.2.1 3 = .ok (.invokevirtual 159, 3) := by decide +kernel
theorem d11_readEdge_6 : decode y11_readEdge.2.1 6 = .ok (.istore_n 3, 1) := by decide +kernel
theorem d11_readEdge_7 : decode y11_readEdge.2.1 7 = .ok (.iload_n 3, 1) := by decide +kernel
theorem d11_readEdge_8 : decode y11_readEdge.2.1 8 = .ok (.ifCond .lt 10, 3) := by decide +kernel
theorem d11_readEdge_11 : decode y11_readEdge.2.1 11 = .ok (.aload_n 0, 1) := by decide +kernel
theorem d11_readEdge_12 : decode y11_readEdge.2.1 12 = .ok (.getfield 235, 3) := by decide +kernel
theorem d11_readEdge_15 : decode y11_readEdge.2.1 15 = .ok (.ifCond .eq 4, 3) := by decide +kernel
theorem d11_readEdge_18 : decode y11_readEdge.2.1 18 = .ok (.return_, 1) := by decide +kernel
theorem d11_readEdge_19 : decode y11_readEdge.2.1 19 = .ok (.aload_n 0, 1) := by decide +kernel
theorem d11_readEdge_20 : decode y11_readEdge.2.1 20 = .ok (.iconst 0, 1) := by decide +kernel
theorem d11_readEdge_21 : decode y11_readEdge.2.1 21 = .ok (.iconst 1, 1) := by decide +kernel
theorem d11_readEdge_22 : decode y11_readEdge.2.1 22 = .ok (.invokevirtual 247, 3) := by decide +kernel
theorem d11_readEdge_25 : decode y11_readEdge.2.1 25 = .ok (.istore 4, 2) := by decide +kernel
theorem d11_readEdge_27 : decode y11_readEdge.2.1 27 = .ok (.aload_n 0, 1) := by decide +kernel
theorem d11_readEdge_28 : decode y11_readEdge.2.1 28 = .ok (.getfield 238, 3) := by decide +kernel
theorem d11_readEdge_31 : decode y11_readEdge.2.1 31 = .ok (.iconst 1, 1) := by decide +kernel
theorem d11_readEdge_32 : decode y11_readEdge.2.1 32 = .ok (.isub, 1) := by decide +kernel
theorem d11_readEdge_33 : decode y11_readEdge.2.1 33 = .ok (.istore 5, 2) := by decide +kernel
theorem d11_readEdge_35 : decode y11_readEdge.2.1 35 = .ok (.aload_n 0, 1) := by decide +kernel
theorem d11_readEdge_36 : decode y11_readEdge.2.1 36 = .ok (.getfield 235, 3) := by decide +kernel
theorem d11_readEdge_39 : decode y11_readEdge.2.1 39 = .ok (.ifCond .eq 4, 3) := by decide +kernel
theorem d11_readEdge_42 : decode y11_readEdge.2.1 42 = .ok (.return_, 1) := by decide +kernel
theorem d11_readEdge_43 : decode y11_readEdge.2.1 43 = .ok (.aload_n 0, 1) := by decide +kernel
theorem d11_readEdge_44 : decode y11_readEdge.2.1 44 = .ok (.iload_n 1, 1) := by decide +kernel
theorem d11_readEdge_45 : decode y11_readEdge.2.1 45 = .ok (.iload_n 2, 1) := by decide +kernel
theorem d11_readEdge_46 : decode y11_readEdge.2.1 46 = .ok (.invokevirtual 250, 3) := by decide +kernel
theorem d11_readEdge_49 : decode y11_readEdge.2.1 49 = .ok (.iload 4, 2) := by decide +kernel
theorem d11_readEdge_51 : decode y11_readEdge.2.1 51 = .ok (.iconst 1, 1) := by decide +kernel
theorem d11_readEdge_52 : decode y11_readEdge.2.1 52 = .ok (.if_icmp .ne 31, 3) := by decide +kernel
theorem d11_readEdge_55 : decode y11_readEdge.2.1 55 = .ok (.aload_n 0, 1) := by decide +kernel
theorem d11_readEdge_56 : decode y11_readEdge.2.1 56 = .ok (.iconst 0, 1) := by decide +kernel
theorem d11_readEdge_57 : decode y11_readEdge.2.1 57 = .ok (.bipush 9, 2) := by decide +kernel
theorem d11_readEdge_59 : decode y11_readEdge.2.1 59 = .ok (.invokevirtual 247, 3) := by decide +kernel
theorem d11_readEdge_62 : decode y11_readEdge.2.1 62 = .ok (.istore 6, 2) := by decide +kernel
theorem d11_readEdge_64 : decode y11_readEdge.2.1 64 = .ok (.aload_n 0, 1) := by decide +kernel
theorem d11_readEdge_65 : decode y11_readEdge.2.1 65 = .ok (.getfield 235, 3) := by decide +kernel
theorem d11_readEdge_68 : decode y11_readEdge.2.1 68 = .ok (.ifCond .ne 14, 3) := by decide +kernel
theorem d11_readEdge_71 : decode y11_readEdge.2.1 71 = .ok (.aload_n 0, 1) := by decide +kernel
theorem d11_readEdge_72 : decode y11_readEdge.2.1 72 = .ok (.iload 6, 2) := by decide +kernel
theorem d11_readEdge_74 : decode y11_readEdge.2.1 74 = .ok (.iload 6, 2) := by decide +kernel
theorem d11_readEdge_76 : decode y11_readEdge.2.1 76 = .ok (.ldc2_w 119, 3) := by decide +kernel
theorem d11_readEdge_79 : decode y11_readEdge.2.1 79 = .ok (.invokevirtual 253, 3) := by decide +kernel
theorem d11_readEdge_82 : decode y11_readEdge.2.1 82 = .ok (.return_, 1) := by decide +kernel
theorem d11_readEdge_83 : decode y11_readEdge.2.1 83 = .ok (.aload_n 0, 1) := by decide +kernel
theorem d11_readEdge_84 : decode y11_readEdge.2.1 84 = .ok (.getfield 77, 3) := by decide +kernel
theorem d11_readEdge_87 : decode y11_readEdge.2.1 87 = .ok (.iload_n 3, 1) := by decide +kernel
theorem d11_readEdge_88 : decode y11_readEdge.2.1 88 = .ok (.iaload, 1) := by decide +kernel
theorem d11_readEdge_89 : decode y11_readEdge.2.1 89 = .ok (.ifCond .ge 12, 3) := by decide +kernel
theorem d11_readEdge_92 : decode y11_readEdge.2.1 92 = .ok (.aload_n 0, 1) := by decide +kernel
theorem d11_readEdge_93 : decode y11_readEdge.2.1 93 = .ok (.bipush 7, 2) := by decide +kernel
theorem d11_readEdge_95 : decode y11_readEdge.2.1 95 = .ok (.iload 5, 2) := by decide +kernel
theorem d11_readEdge_97 : decode y11_readEdge.2.1 97 = .ok (.invokevirtual 241, 3) := by decide +kernel
theorem d11_readEdge_100 : decode y11_readEdge.2.1 100 = .ok (.return_, 1) := by decide +kernel
theorem d11_readEdge_101 : decode y11_readEdge.2.1 101 = .ok (.iconst 0, 1) := by decide +kernel
theorem d11_readEdge_102 : decode y11_readEdge.2.1 102 = .ok (.istore 6, 2) := by decide +kernel
theorem d11_readEdge_104 : decode y11_readEdge.2.1 104 = .ok (.iload 6, 2) := by decide +kernel
theorem d11_readEdge_106 : decode y11_readEdge.2.1 106 = .ok (.aload_n 0, 1) := by decide +kernel
theorem d11_readEdge_107 : decode y11_readEdge.2.1 107 = .ok (.getfield 77, 3) := by decide +kernel
theorem d11_readEdge_110 : decode y11_readEdge.2.1 110 = .ok (.iload_n 3, 1) := by decide +kernel
theorem d11_readEdge_111 : decode y11_readEdge.2.1 111 = .ok (.iaload, 1) := by decide +kernel
theorem d11_readEdge_112 : decode y11_readEdge.2.1 112 = .ok (.if_icmp .ge 59, 3) := by decide +kernel
theorem d11_readEdge_115 : decode y11_readEdge.2.1 115 = .ok (.aload_n 0, 1) := by decide +kernel
theorem d11_readEdge_116 : decode y11_readEdge.2.1 116 = .ok (.getfield 235, 3) := by decide +kernel
theorem d11_readEdge_119 : decode y11_readEdge.2.1 119 = .ok (.ifCond .ne 52, 3) := by decide +kernel
theorem d11_readEdge_122 : decode y11_readEdge.2.1 122 = .ok (.aload_n 0, 1) := by decide +kernel
theorem d11_readEdge_123 : decode y11_readEdge.2.1 123 = .ok (.getfield 74, 3) := by decide +kernel
theorem d11_readEdge_126 : decode y11_readEdge.2.1 126 = .ok (.iload_n 3, 1) := by decide +kernel
theorem d11_readEdge_127 : decode y11_readEdge.2.1 127 = .ok (.iaload, 1) := by decide +kernel
theorem d11_readEdge_128 : decode y11_readEdge.2.1 128 = .ok (.iconst 3, 1) := by decide +kernel
theorem d11_readEdge_129 : decode y11_readEdge.2.1 129 = .ok (.iload 6, 2) := by decide +kernel
theorem d11_readEdge_131 : decode y11_readEdge.2.1 131 = .ok (.imul, 1) := by decide +kernel
theorem d11_readEdge_132 : decode y11_readEdge.2.1 132 = .ok (.iadd, 1) := by decide +kernel
theorem d11_readEdge_133 : decode y11_readEdge.2.1 133 = .ok (.istore 7, 2) := by decide +kernel
theorem d11_readEdge_135 : decode y11_readEdge.2.1 135 = .ok (.aload_n 0, 1) := by decide +kernel
theorem d11_readEdge_136 : decode y11_readEdge.2.1 136 = .ok (.aload_n 0, 1) := by decide +kernel
theorem d11_readEdge_137 : decode y11_readEdge.2.1 137 = .ok (.getfield 25, 3) := by decide +kernel
theorem d11_readEdge_140 : decode y11_readEdge.2.1 140 = .ok (.iload 7, 2) := by decide +kernel
theorem d11_readEdge_142 : decode y11_readEdge.2.1 142 = .ok (.iaload, 1) := by decide +kernel
theorem d11_readEdge_143 : decode y11_readEdge.2.1 143 = .ok (.aload_n 0, 1) := by decide +kernel
theorem d11_readEdge_144 : decode y11_readEdge.2.1 144 = .ok (.getfield 25, 3) := by decide +kernel
theorem d11_readEdge_147 : decode y11_readEdge.2.1 147 = .ok (.iload 7, 2) := by decide +kernel
theorem d11_readEdge_149 : decode y11_readEdge.2.1 149 = .ok (.iconst 1, 1) := by decide +kernel
theorem d11_readEdge_150 : decode y11_readEdge.2.1 150 = .ok (.iadd, 1) := by decide +kernel
theorem d11_readEdge_151 : decode y11_readEdge.2.1 151 = .ok (.iaload, 1) := by decide +kernel
theorem d11_readEdge_152 : decode y11_readEdge.2.1 152 = .ok (.aload_n 0, 1) := by decide +kernel
theorem d11_readEdge_153 : decode y11_readEdge.2.1 153 = .ok (.getfield 25, 3) := by decide +kernel
theorem d11_readEdge_156 : decode y11_readEdge.2.1 156 = .ok (.iload 7, 2) := by decide +kernel
theorem d11_readEdge_158 : decode y11_readEdge.2.1 158 = .ok (.iconst 2, 1) := by decide +kernel
theorem d11_readEdge_159 : decode y11_readEdge.2.1 159 = .ok (.iadd, 1) := by decide +kernel
theorem d11_readEdge_160 : decode y11_readEdge.2.1 160 = .ok (.iaload, 1) := by decide +kernel
theorem d11_readEdge_161 : decode y11_readEdge.2.1 161 = .ok (.i2l, 1) := by decide +kernel
theorem d11_readEdge_162 : decode y11_readEdge.2.1 162 = .ok (.invokevirtual 253, 3) := by decide +kernel
theorem d11_readEdge_165 : decode y11_readEdge.2.1 165 = .ok (.iinc 6 1, 3) := by decide +kernel
theorem d11_readEdge_168 : decode y11_readEdge.2.1 168 = .ok (.goto (-64), 3) := by decide +kernel
theorem d11_readEdge_171 : decode y11_readEdge.2.1 171 = .ok (.return_, 1) := by decide +kernel
theorem d11_tapeSteps_0 : decode y11_tapeSteps.2.1 0 = .ok (.aload_n 0, 1) := by decide +kernel
theorem d11_tapeSteps_1 : decode y11_tapeSteps.2.1 1 = .ok (.iconst 0, 1) := by decide +kernel
theorem d11_tapeSteps_2 : decode y11_tapeSteps.2.1 2 = .ok (.putfield 92, 3) := by decide +kernel
theorem d11_tapeSteps_5 : decode y11_tapeSteps.2.1 5 = .ok (.aload_n 0, 1) := by decide +kernel
theorem d11_tapeSteps_6 : decode y11_tapeSteps.2.1 6 = .ok (.iconst 0, 1) := by decide +kernel
theorem d11_tapeSteps_7 : decode y11_tapeSteps.2.1 7 = .ok (.putfield 100, 3) := by decide +kernel
theorem d11_tapeSteps_10 : decode y11_tapeSteps.2.1 10 = .ok (.aload_n 0, 1) := by decide +kernel
theorem d11_tapeSteps_11 : decode y11_tapeSteps.2.1 11 = .ok (.getfield 77, 3) := by decide +kernel
theorem d11_tapeSteps_14 : decode y11_tapeSteps.2.1 14 = .ok (.iload_n 1, 1) := by decide +kernel
theorem d11_tapeSteps_15 : decode y11_tapeSteps.2.1 15 = .ok (.iaload, 1) := by decide +kernel
theorem d11_tapeSteps_16 : decode y11_tapeSteps.2.1 16 = .ok (.istore_n 3, 1) := by decide +kernel
theorem d11_tapeSteps_17 : decode y11_tapeSteps.2.1 17 = .ok (.iconst 0, 1) := by decide +kernel
theorem d11_tapeSteps_18 : decode y11_tapeSteps.2.1 18 = .ok (.istore 4, 2) := by decide +kernel
theorem d11_tapeSteps_20 : decode y11_tapeSteps.2.1 20 = .ok (.iload 4, 2) := by decide +kernel
theorem d11_tapeSteps_22 : decode y11_tapeSteps.2.1 22 = .ok (.iload_n 3, 1) := by decide +kernel
theorem d11_tapeSteps_23 : decode y11_tapeSteps.2.1 23 = .ok (.if_icmp .ge 55, 3) := by decide +kernel
theorem d11_tapeSteps_26 : decode y11_tapeSteps.2.1 26 = .ok (.aload_n 0, 1) := by decide +kernel
theorem d11_tapeSteps_27 : decode y11_tapeSteps.2.1 27 = .ok (.getfield 74, 3) := by decide +kernel
theorem d11_tapeSteps_30 : decode y11_tapeSteps.2.1 30 = .ok (.iload_n 1, 1) := by decide +kernel
theorem d11_tapeSteps_31 : decode y11_tapeSteps.2.1 31 = .ok (.iaload, 1) := by decide +kernel
theorem d11_tapeSteps_32 : decode y11_tapeSteps.2.1 32 = .ok (.iconst 3, 1) := by decide +kernel
theorem d11_tapeSteps_33 : decode y11_tapeSteps.2.1 33 = .ok (.iload 4, 2) := by decide +kernel
theorem d11_tapeSteps_35 : decode y11_tapeSteps.2.1 35 = .ok (.imul, 1) := by decide +kernel
theorem d11_tapeSteps_36 : decode y11_tapeSteps.2.1 36 = .ok (.iadd, 1) := by decide +kernel
theorem d11_tapeSteps_37 : decode y11_tapeSteps.2.1 37 = .ok (.istore 5, 2) := by decide +kernel
theorem d11_tapeSteps_39 : decode y11_tapeSteps.2.1 39 = .ok (.aload_n 0, 1) := by decide +kernel
theorem d11_tapeSteps_40 : decode y11_tapeSteps.2.1 40 = .ok (.iload_n 1, 1) := by decide +kernel
theorem d11_tapeSteps_41 : decode y11_tapeSteps.2.1 41 = .ok (.iload 4, 2) := by decide +kernel
theorem d11_tapeSteps_43 : decode y11_tapeSteps.2.1 43 = .ok (.aload_n 0, 1) := by decide +kernel
theorem d11_tapeSteps_44 : decode y11_tapeSteps.2.1 44 = .ok (.getfield 25, 3) := by decide +kernel
theorem d11_tapeSteps_47 : decode y11_tapeSteps.2.1 47 = .ok (.iload 5, 2) := by decide +kernel
theorem d11_tapeSteps_49 : decode y11_tapeSteps.2.1 49 = .ok (.iaload, 1) := by decide +kernel
theorem d11_tapeSteps_50 : decode y11_tapeSteps.2.1 50 = .ok (.aload_n 0, 1) := by decide +kernel
theorem d11_tapeSteps_51 : decode y11_tapeSteps.2.1 51 = .ok (.getfield 25, 3) := by decide +kernel
theorem d11_tapeSteps_54 : decode y11_tapeSteps.2.1 54 = .ok (.iload 5, 2) := by decide +kernel
theorem d11_tapeSteps_56 : decode y11_tapeSteps.2.1 56 = .ok (.iconst 1, 1) := by decide +kernel
theorem d11_tapeSteps_57 : decode y11_tapeSteps.2.1 57 = .ok (.iadd, 1) := by decide +kernel
theorem d11_tapeSteps_58 : decode y11_tapeSteps.2.1 58 = .ok (.iaload, 1) := by decide +kernel
theorem d11_tapeSteps_59 : decode y11_tapeSteps.2.1 59 = .ok (.aload_n 0, 1) := by decide +kernel
theorem d11_tapeSteps_60 : decode y11_tapeSteps.2.1 60 = .ok (.getfield 25, 3) := by decide +kernel
theorem d11_tapeSteps_63 : decode y11_tapeSteps.2.1 63 = .ok (.iload 5, 2) := by decide +kernel
theorem d11_tapeSteps_65 : decode y11_tapeSteps.2.1 65 = .ok (.iconst 2, 1) := by decide +kernel
theorem d11_tapeSteps_66 : decode y11_tapeSteps.2.1 66 = .ok (.iadd, 1) := by decide +kernel
theorem d11_tapeSteps_67 : decode y11_tapeSteps.2.1 67 = .ok (.iaload, 1) := by decide +kernel
theorem d11_tapeSteps_68 : decode y11_tapeSteps.2.1 68 = .ok (.i2l, 1) := by decide +kernel
theorem d11_tapeSteps_69 : decode y11_tapeSteps.2.1 69 = .ok (.invokevirtual 133, 3) := by decide +kernel
theorem d11_tapeSteps_72 : decode y11_tapeSteps.2.1 72 = .ok (.iinc 4 1, 3) := by decide +kernel
theorem d11_tapeSteps_75 : decode y11_tapeSteps.2.1 75 = .ok (.goto (-55), 3) := by decide +kernel
theorem d11_tapeSteps_78 : decode y11_tapeSteps.2.1 78 = .ok (.aload_n 0, 1) := by decide +kernel
theorem d11_tapeSteps_79 : decode y11_tapeSteps.2.1 79 = .ok (.iload_n 1, 1) := by decide +kernel
theorem d11_tapeSteps_80 : decode y11_tapeSteps.2.1 80 = .ok (.iload_n 2, 1) := by decide +kernel
theorem d11_tapeSteps_81 : decode y11_tapeSteps.2.1 81 = .ok (.iload_n 3, 1) := by decide +kernel
theorem d11_tapeSteps_82 : decode y11_tapeSteps.2.1 82 = .ok (.invokevirtual 137, 3) := by decide +kernel
theorem d11_tapeSteps_85 : decode y11_tapeSteps.2.1 85 = .ok (.aload_n 0, 1) := by decide +kernel
theorem d11_tapeSteps_86 : decode y11_tapeSteps.2.1 86 = .ok (.getfield 7, 3) := by decide +kernel
theorem d11_tapeSteps_89 : decode y11_tapeSteps.2.1 89 = .ok (.iload_n 1, 1) := by decide +kernel
theorem d11_tapeSteps_90 : decode y11_tapeSteps.2.1 90 = .ok (.iaload, 1) := by decide +kernel
theorem d11_tapeSteps_91 : decode y11_tapeSteps.2.1 91 = .ok (.iconst 4, 1) := by decide +kernel
theorem d11_tapeSteps_92 : decode y11_tapeSteps.2.1 92 = .ok (.if_icmp .eq 4, 3) := by decide +kernel
theorem d11_tapeSteps_95 : decode y11_tapeSteps.2.1 95 = .ok (.return_, 1) := by decide +kernel
theorem d11_tapeSteps_96 : decode y11_tapeSteps.2.1 96 = .ok (.iconst 0, 1) := by decide +kernel
theorem d11_tapeSteps_97 : decode y11_tapeSteps.2.1 97 = .ok (.istore 4, 2) := by decide +kernel
theorem d11_tapeSteps_99 : decode y11_tapeSteps.2.1 99 = .ok (.iload 4, 2) := by decide +kernel
theorem d11_tapeSteps_101 : decode y11_tapeSteps.2.1 101 = .ok (.iload_n 3, 1) := by decide +kernel
theorem d11_tapeSteps_102 : decode y11_tapeSteps.2.1 102 = .ok (.if_icmp .ge 140, 3) := by decide +kernel
theorem d11_tapeSteps_105 : decode y11_tapeSteps.2.1 105 = .ok (.iconst 0, 1) := by decide +kernel
theorem d11_tapeSteps_106 : decode y11_tapeSteps.2.1 106 = .ok (.istore 5, 2) := by decide +kernel
theorem d11_tapeSteps_108 : decode y11_tapeSteps.2.1 108 = .ok (.iload 5, 2) := by decide +kernel
theorem d11_tapeSteps_110 : decode y11_tapeSteps.2.1 110 = .ok (.iload_n 3, 1) := by decide +kernel
theorem d11_tapeSteps_111 : decode y11_tapeSteps.2.1 111 = .ok (.if_icmp .ge 125, 3) := by decide +kernel
theorem d11_tapeSteps_114 : decode y11_tapeSteps.2.1 114 = .ok (.aload_n 0, 1) := by decide +kernel
theorem d11_tapeSteps_115 : decode y11_tapeSteps.2.1 115 = .ok (.getfield 74, 3) := by decide +kernel
theorem d11_tapeSteps_118 : decode y11_tapeSteps.2.1 118 = .ok (.iload_n 1, 1) := by decide +kernel
theorem d11_tapeSteps_119 : decode y11_tapeSteps.2.1 119 = .ok (.iaload, 1) := by decide +kernel
theorem d11_tapeSteps_120 : decode y11_tapeSteps.2.1 120 = .ok (.iconst 3, 1) := by decide +kernel
theorem d11_tapeSteps_121 : decode y11_tapeSteps.2.1 121 = .ok (.iload 4, 2) := by decide +kernel
theorem d11_tapeSteps_123 : decode y11_tapeSteps.2.1 123 = .ok (.imul, 1) := by decide +kernel
theorem d11_tapeSteps_124 : decode y11_tapeSteps.2.1 124 = .ok (.iadd, 1) := by decide +kernel
theorem d11_tapeSteps_125 : decode y11_tapeSteps.2.1 125 = .ok (.istore 6, 2) := by decide +kernel
theorem d11_tapeSteps_127 : decode y11_tapeSteps.2.1 127 = .ok (.aload_n 0, 1) := by decide +kernel
theorem d11_tapeSteps_128 : decode y11_tapeSteps.2.1 128 = .ok (.getfield 74, 3) := by decide +kernel
theorem d11_tapeSteps_131 : decode y11_tapeSteps.2.1 131 = .ok (.iload_n 1, 1) := by decide +kernel
theorem d11_tapeSteps_132 : decode y11_tapeSteps.2.1 132 = .ok (.iaload, 1) := by decide +kernel
theorem d11_tapeSteps_133 : decode y11_tapeSteps.2.1 133 = .ok (.iconst 3, 1) := by decide +kernel
theorem d11_tapeSteps_134 : decode y11_tapeSteps.2.1 134 = .ok (.iload 5, 2) := by decide +kernel
theorem d11_tapeSteps_136 : decode y11_tapeSteps.2.1 136 = .ok (.imul, 1) := by decide +kernel
theorem d11_tapeSteps_137 : decode y11_tapeSteps.2.1 137 = .ok (.iadd, 1) := by decide +kernel
theorem d11_tapeSteps_138 : decode y11_tapeSteps.2.1 138 = .ok (.istore 7, 2) := by decide +kernel
theorem d11_tapeSteps_140 : decode y11_tapeSteps.2.1 140 = .ok (.aload_n 0, 1) := by decide +kernel
theorem d11_tapeSteps_141 : decode y11_tapeSteps.2.1 141 = .ok (.iload_n 1, 1) := by decide +kernel
theorem d11_tapeSteps_142 : decode y11_tapeSteps.2.1 142 = .ok (.aload_n 0, 1) := by decide +kernel
theorem d11_tapeSteps_143 : decode y11_tapeSteps.2.1 143 = .ok (.getfield 25, 3) := by decide +kernel
theorem d11_tapeSteps_146 : decode y11_tapeSteps.2.1 146 = .ok (.iload 6, 2) := by decide +kernel
theorem d11_tapeSteps_148 : decode y11_tapeSteps.2.1 148 = .ok (.iaload, 1) := by decide +kernel
theorem d11_tapeSteps_149 : decode y11_tapeSteps.2.1 149 = .ok (.aload_n 0, 1) := by decide +kernel
theorem d11_tapeSteps_150 : decode y11_tapeSteps.2.1 150 = .ok (.getfield 25, 3) := by decide +kernel
theorem d11_tapeSteps_153 : decode y11_tapeSteps.2.1 153 = .ok (.iload 6, 2) := by decide +kernel
theorem d11_tapeSteps_155 : decode y11_tapeSteps.2.1 155 = .ok (.iconst 1, 1) := by decide +kernel
theorem d11_tapeSteps_156 : decode y11_tapeSteps.2.1 156 = .ok (.iadd, 1) := by decide +kernel
theorem d11_tapeSteps_157 : decode y11_tapeSteps.2.1 157 = .ok (.iaload, 1) := by decide +kernel
theorem d11_tapeSteps_158 : decode y11_tapeSteps.2.1 158 = .ok (.aload_n 0, 1) := by decide +kernel
theorem d11_tapeSteps_159 : decode y11_tapeSteps.2.1 159 = .ok (.getfield 25, 3) := by decide +kernel
theorem d11_tapeSteps_162 : decode y11_tapeSteps.2.1 162 = .ok (.iload 7, 2) := by decide +kernel
theorem d11_tapeSteps_164 : decode y11_tapeSteps.2.1 164 = .ok (.iaload, 1) := by decide +kernel
theorem d11_tapeSteps_165 : decode y11_tapeSteps.2.1 165 = .ok (.aload_n 0, 1) := by decide +kernel
theorem d11_tapeSteps_166 : decode y11_tapeSteps.2.1 166 = .ok (.getfield 25, 3) := by decide +kernel
theorem d11_tapeSteps_169 : decode y11_tapeSteps.2.1 169 = .ok (.iload 7, 2) := by decide +kernel
theorem d11_tapeSteps_171 : decode y11_tapeSteps.2.1 171 = .ok (.iconst 1, 1) := by decide +kernel
theorem d11_tapeSteps_172 : decode y11_tapeSteps.2.1 172 = .ok (.iadd, 1) := by decide +kernel
theorem d11_tapeSteps_173 : decode y11_tapeSteps.2.1 173 = .ok (.iaload, 1) := by decide +kernel
theorem d11_tapeSteps_174 : decode y11_tapeSteps.2.1 174 = .ok (.invokevirtual 144, 3) := by decide +kernel
theorem d11_tapeSteps_177 : decode y11_tapeSteps.2.1 177 = .ok (.ifCond .eq 53, 3) := by decide +kernel
theorem d11_tapeSteps_180 : decode y11_tapeSteps.2.1 180 = .ok (.aload_n 0, 1) := by decide +kernel
theorem d11_tapeSteps_181 : decode y11_tapeSteps.2.1 181 = .ok (.iload_n 3, 1) := by decide +kernel
theorem d11_tapeSteps_182 : decode y11_tapeSteps.2.1 182 = .ok (.iload_n 3, 1) := by decide +kernel
theorem d11_tapeSteps_183 : decode y11_tapeSteps.2.1 183 = .ok (.iload 4, 2) := by decide +kernel
theorem d11_tapeSteps_185 : decode y11_tapeSteps.2.1 185 = .ok (.imul, 1) := by decide +kernel
theorem d11_tapeSteps_186 : decode y11_tapeSteps.2.1 186 = .ok (.iadd, 1) := by decide +kernel
theorem d11_tapeSteps_187 : decode y11_tapeSteps.2.1 187 = .ok (.iload 5, 2) := by decide +kernel
theorem d11_tapeSteps_189 : decode y11_tapeSteps.2.1 189 = .ok (.iadd, 1) := by decide +kernel
theorem d11_tapeSteps_190 : decode y11_tapeSteps.2.1 190 = .ok (.aload_n 0, 1) := by decide +kernel
theorem d11_tapeSteps_191 : decode y11_tapeSteps.2.1 191 = .ok (.getfield 25, 3) := by decide +kernel
theorem d11_tapeSteps_194 : decode y11_tapeSteps.2.1 194 = .ok (.iload 6, 2) := by decide +kernel
theorem d11_tapeSteps_196 : decode y11_tapeSteps.2.1 196 = .ok (.iaload, 1) := by decide +kernel
theorem d11_tapeSteps_197 : decode y11_tapeSteps.2.1 197 = .ok (.aload_n 0, 1) := by decide +kernel
theorem d11_tapeSteps_198 : decode y11_tapeSteps.2.1 198 = .ok (.getfield 25, 3) := by decide +kernel
theorem d11_tapeSteps_201 : decode y11_tapeSteps.2.1 201 = .ok (.iload 6, 2) := by decide +kernel
theorem d11_tapeSteps_203 : decode y11_tapeSteps.2.1 203 = .ok (.iconst 1, 1) := by decide +kernel
theorem d11_tapeSteps_204 : decode y11_tapeSteps.2.1 204 = .ok (.iadd, 1) := by decide +kernel
theorem d11_tapeSteps_205 : decode y11_tapeSteps.2.1 205 = .ok (.iaload, 1) := by decide +kernel
theorem d11_tapeSteps_206 : decode y11_tapeSteps.2.1 206 = .ok (.aload_n 0, 1) := by decide +kernel
theorem d11_tapeSteps_207 : decode y11_tapeSteps.2.1 207 = .ok (.getfield 25, 3) := by decide +kernel
theorem d11_tapeSteps_210 : decode y11_tapeSteps.2.1 210 = .ok (.iload 6, 2) := by decide +kernel
theorem d11_tapeSteps_212 : decode y11_tapeSteps.2.1 212 = .ok (.iconst 2, 1) := by decide +kernel
theorem d11_tapeSteps_213 : decode y11_tapeSteps.2.1 213 = .ok (.iadd, 1) := by decide +kernel
theorem d11_tapeSteps_214 : decode y11_tapeSteps.2.1 214 = .ok (.iaload, 1) := by decide +kernel
theorem d11_tapeSteps_215 : decode y11_tapeSteps.2.1 215 = .ok (.i2l, 1) := by decide +kernel
theorem d11_tapeSteps_216 : decode y11_tapeSteps.2.1 216 = .ok (.aload_n 0, 1) := by decide +kernel
theorem d11_tapeSteps_217 : decode y11_tapeSteps.2.1 217 = .ok (.getfield 25, 3) := by decide +kernel
theorem d11_tapeSteps_220 : decode y11_tapeSteps.2.1 220 = .ok (.iload 7, 2) := by decide +kernel
theorem d11_tapeSteps_222 : decode y11_tapeSteps.2.1 222 = .ok (.iconst 2, 1) := by decide +kernel
theorem d11_tapeSteps_223 : decode y11_tapeSteps.2.1 223 = .ok (.iadd, 1) := by decide +kernel
theorem d11_tapeSteps_224 : decode y11_tapeSteps.2.1 224 = .ok (.iaload, 1) := by decide +kernel
theorem d11_tapeSteps_225 : decode y11_tapeSteps.2.1 225 = .ok (.i2l, 1) := by decide +kernel
theorem d11_tapeSteps_226 : decode y11_tapeSteps.2.1 226 = .ok (.ladd, 1) := by decide +kernel
theorem d11_tapeSteps_227 : decode y11_tapeSteps.2.1 227 = .ok (.invokevirtual 107, 3) := by decide +kernel
theorem d11_tapeSteps_230 : decode y11_tapeSteps.2.1 230 = .ok (.iinc 5 1, 3) := by decide +kernel
theorem d11_tapeSteps_233 : decode y11_tapeSteps.2.1 233 = .ok (.goto (-125), 3) := by decide +kernel
theorem d11_tapeSteps_236 : decode y11_tapeSteps.2.1 236 = .ok (.iinc 4 1, 3) := by decide +kernel
theorem d11_tapeSteps_239 : decode y11_tapeSteps.2.1 239 = .ok (.goto (-140), 3) := by decide +kernel
theorem d11_tapeSteps_242 : decode y11_tapeSteps.2.1 242 = .ok (.return_, 1) := by decide +kernel
