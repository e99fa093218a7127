theorem d11_isAccess_0 : decode y11_isAccess.2.1 0 = .ok (.aload_n 0, 1) := by decide +kernel
theorem d11_isAccess_1 : decode y11_isAccess.2.1 1 = .ok (.getfield 7, 3) := by decide +kernel
theorem d11_isAccess_4 : decode y11_isAccess.2.1 4 = .ok (.iload_n 1, 1) := by decide +kernel
theorem d11_isAccess_5 : decode y11_isAccess.2.1 5 = .ok (.iaload, 1) := by decide +kernel
theorem d11_isAccess_6 : decode y11_isAccess.2.1 6 = .ok (.bipush 7, 2) := by decide +kernel
theorem d11_isAccess_8 : decode y11_isAccess.2.1 8 = .ok (.if_icmp .le 18, 3) := by decide +kernel
theorem d11_isAccess_11 : decode y11_isAccess.2.1 11 = .ok (.aload_n 0, 1) := by decide +kernel
theorem d11_isAccess_12 : decode y11_isAccess.2.1 12 = .ok (.getfield 7, 3) := by decide +kernel
theorem d11_isAccess_15 : decode y11_isAccess.2.1 15 = .ok (.iload_n 1, 1) := by decide +kernel
theorem d11_isAccess_16 : decode y11_isAccess.2.1 16 = .ok (.iaload, 1) := by decide +kernel
theorem d11_isAccess_17 : decode y11_isAccess.2.1 17 = .ok (.bipush 13, 2) := by decide +kernel
theorem d11_isAccess_19 : decode y11_isAccess.2.1 19 = .ok (.if_icmp .ge 7, 3) := by decide +kernel
theorem d11_isAccess_22 : decode y11_isAccess.2.1 22 = .ok (.iconst 1, 1) := by decide +kernel
theorem d11_isAccess_23 : decode y11_isAccess.2.1 23 = .ok (.goto 4, 3) := by decide +kernel
theorem d11_isAccess_26 : decode y11_isAccess.2.1 26 = .ok (.iconst 0, 1) := by decide +kernel
theorem d11_isAccess_27 : decode y11_isAccess.2.1 27 = .ok (.ireturn, 1) := by decide +kernel
theorem d11_findBound_0 : decode y11_findBound.2.1 0 = .ok (.aload_n 0, 1) := by decide +kernel
theorem d11_findBound_1 : decode y11_findBound.2.1 1 = .ok (.iconst 1, 1) := by decide +kernel
theorem d11_findBound_2 : decode y11_findBound.2.1 2 = .ok (.putfield 92, 3) := by decide +kernel
theorem d11_findBound_5 : decode y11_findBound.2.1 5 = .ok (.aload_n 0, 1) := by decide +kernel
theorem d11_findBound_6 : decode y11_findBound.2.1 6 = .ok (.iconst 0, 1) := by decide +kernel
theorem d11_findBound_7 : decode y11_findBound.2.1 7 = .ok (.putfield 100, 3) := by decide +kernel
theorem d11_findBound_10 : decode y11_findBound.2.1 10 = .ok (.iconst 0, 1) := by decide +kernel
theorem d11_findBound_11 : decode y11_findBound.2.1 11 = .ok (.istore_n 3, 1) := by decide +kernel
theorem d11_findBound_12 : decode y11_findBound.2.1 12 = .ok (.iload_n 3, 1) := by decide +kernel
theorem d11_findBound_13 : decode y11_findBound.2.1 13 = .ok (.bipush 100, 2) := by decide +kernel
theorem d11_findBound_15 : decode y11_findBound.2.1 15 = .ok (.if_icmp .ge 51, 3) := by decide +kernel
theorem d11_findBound_18 : decode y11_findBound.2.1 18 = .ok (.aload_n 0, 1) := by decide +kernel
theorem d11_findBound_19 : decode y11_findBound.2.1 19 = .ok (.getfield 49, 3) := by decide +kernel
theorem d11_findBound_22 : decode y11_findBound.2.1 22 = .ok (.bipush 100, 2) := by decide +kernel
theorem d11_findBound_24 : decode y11_findBound.2.1 24 = .ok (.iload_n 1, 1) := by decide +kernel
theorem d11_findBound_25 : decode y11_findBound.2.1 25 = .ok (.imul, 1) := by decide +kernel
theorem d11_findBound_26 : decode y11_findBound.2.1 26 = .ok (.iload_n 3, 1) := by decide +kernel
theorem d11_findBound_27 : decode y11_findBound.2.1 27 = .ok (.iadd, 1) := by decide +kernel
theorem d11_findBound_28 : decode y11_findBound.2.1 28 = .ok (.laload, 1) := by decide +kernel
theorem d11_findBound_29 : decode y11_findBound.2.1 29 = .ok (.ldc2_w 123, 3) := by decide +kernel
theorem d11_findBound_32 : decode y11_findBound.2.1 32 = .ok (.lcmp, 1) := by decide +kernel
theorem d11_findBound_33 : decode y11_findBound.2.1 33 = .ok (.ifCond .ge 27, 3) := by decide +kernel
theorem d11_findBound_36 : decode y11_findBound.2.1 36 = .ok (.aload_n 0, 1) := by decide +kernel
theorem d11_findBound_37 : decode y11_findBound.2.1 37 = .ok (.iload_n 3, 1) := by decide +kernel
theorem d11_findBound_38 : decode y11_findBound.2.1 38 = .ok (.iload_n 3, 1) := by decide +kernel
theorem d11_findBound_39 : decode y11_findBound.2.1 39 = .ok (.bipush 10, 2) := by decide +kernel
theorem d11_findBound_41 : decode y11_findBound.2.1 41 = .ok (.idiv, 1) := by decide +kernel
theorem d11_findBound_42 : decode y11_findBound.2.1 42 = .ok (.iload_n 3, 1) := by decide +kernel
theorem d11_findBound_43 : decode y11_findBound.2.1 43 = .ok (.bipush 10, 2) := by decide +kernel
theorem d11_findBound_45 : decode y11_findBound.2.1 45 = .ok (.irem, 1) := by decide +kernel
theorem d11_findBound_46 : decode y11_findBound.2.1 46 = .ok (.aload_n 0, 1) := by decide +kernel
theorem d11_findBound_47 : decode y11_findBound.2.1 47 = .ok (.getfield 49, 3) := by decide +kernel
theorem d11_findBound_50 : decode y11_findBound.2.1 50 = .ok (.bipush 100, 2) := by decide +kernel
theorem d11_findBound_52 : decode y11_findBound.2.1 52 = .ok (.iload_n 1, 1) := by decide +kernel
theorem d11_findBound_53 : decode y11_findBound.2.1 53 = .ok (.imul, 1) := by decide +kernel
theorem d11_findBound_54 : decode y11_findBound.2.1 54 = .ok (.iload_n 3, 1) := by decide +kernel
theorem d11_findBound_55 : decode y11_findBound.2.1 55 = .ok (.iadd, 1) := by decide +kernel
theorem d11_findBound_56 : decode y11_findBound.2.1 56 = .ok (.laload, 1) := by decide +kernel
theorem d11_findBound_57 : decode y11_findBound.2.1 57 = .ok (.invokevirtual 107, 3) := by decide +kernel
theorem d11_findBound_60 : decode y11_findBound.2.1 60 = .ok (.iinc 3 1, 3) := by decide +kernel
theorem d11_findBound_63 : decode y11_findBound.2.1 63 = .ok (.goto (-51), 3) := by decide +kernel
theorem d11_findBound_66 : decode y11_findBound.2.1 66 = .ok (.iload_n 2, 1) := by decide +kernel
theorem d11_findBound_67 : decode y11_findBound.2.1 67 = .ok (.ifCond .ne 26, 3) := by decide +kernel
theorem d11_findBound_70 : decode y11_findBound.2.1 70 = .ok (.aload_n 0, 1) := by decide +kernel
theorem d11_findBound_71 : decode y11_findBound.2.1 71 = .ok (.iconst 0, 1) := by decide +kernel
theorem d11_findBound_72 : decode y11_findBound.2.1 72 = .ok (.iconst 1, 1) := by decide +kernel
theorem d11_findBound_73 : decode y11_findBound.2.1 73 = .ok (.aload_n 0, 1) := by decide +kernel
theorem d11_findBound_74 : decode y11_findBound.2.1 74 = .ok (.getfield 16, 3) := by decide +kernel
theorem d11_findBound_77 : decode y11_findBound.2.1 77 = .ok (.iload_n 1, 1) := by decide +kernel
theorem d11_findBound_78 : decode y11_findBound.2.1 78 = .ok (.iaload, 1) := by decide +kernel
theorem d11_findBound_79 : decode y11_findBound.2.1 79 = .ok (.iadd, 1) := by decide +kernel
theorem d11_findBound_80 : decode y11_findBound.2.1 80 = .ok (.aload_n 0, 1) := by decide +kernel
theorem d11_findBound_81 : decode y11_findBound.2.1 81 = .ok (.getfield 19, 3) := by decide +kernel
theorem d11_findBound_84 : decode y11_findBound.2.1 84 = .ok (.iload_n 1, 1) := by decide +kernel
theorem d11_findBound_85 : decode y11_findBound.2.1 85 = .ok (.iaload, 1) := by decide +kernel
theorem d11_findBound_86 : decode y11_findBound.2.1 86 = .ok (.i2l, 1) := by decide +kernel
theorem d11_findBound_87 : decode y11_findBound.2.1 87 = .ok (.invokevirtual 173, 3) := by decide +kernel
theorem d11_findBound_90 : decode y11_findBound.2.1 90 = .ok (.goto 25, 3) := by decide +kernel
theorem d11_findBound_93 : decode y11_findBound.2.1 93 = .ok (.aload_n 0, 1) := by decide +kernel
theorem d11_findBound_94 : decode y11_findBound.2.1 94 = .ok (.iconst 1, 1) := by decide +kernel
theorem d11_findBound_95 : decode y11_findBound.2.1 95 = .ok (.aload_n 0, 1) := by decide +kernel
theorem d11_findBound_96 : decode y11_findBound.2.1 96 = .ok (.getfield 16, 3) := by decide +kernel
theorem d11_findBound_99 : decode y11_findBound.2.1 99 = .ok (.iload_n 1, 1) := by decide +kernel
theorem d11_findBound_100 : decode y11_findBound.2.1 100 = .ok (.iaload, 1) := by decide +kernel
theorem d11_findBound_101 : decode y11_findBound.2.1 101 = .ok (.iadd, 1) := by decide +kernel
theorem d11_findBound_102 : decode y11_findBound.2.1 102 = .ok (.aload_n 0, 1) := by decide +kernel
theorem d11_findBound_103 : decode y11_findBound.2.1 103 = .ok (.iload_n 1, 1) := by decide +kernel
theorem d11_findBound_104 : decode y11_findBound.2.1 104 = .ok (.invokevirtual 183, 3) := by decide +kernel
theorem d11_findBound_107 : decode y11_findBound.2.1 107 = .ok (.aload_n 0, 1) := by decide +kernel
theorem d11_findBound_108 : decode y11_findBound.2.1 108 = .ok (.iload_n 1, 1) := by decide +kernel
theorem d11_findBound_109 : decode y11_findBound.2.1 109 = .ok (.invokevirtual 186, 3) := by decide +kernel
theorem d11_findBound_112 : decode y11_findBound.2.1 112 = .ok (.invokevirtual 173, 3) := by decide +kernel
theorem d11_findBound_115 : decode y11_findBound.2.1 115 = .ok (.ireturn, 1) := by decide +kernel
theorem d11_findReason_0 : decode y11_findReason.2.1 0 = .ok (.iconst 0, 1) := by decide +kernel
theorem d11_findReason_1 : decode y11_findReason.2.1 1 = .ok (.istore 5, 2) := by decide +kernel
theorem d11_findReason_3 : decode y11_findReason.2.1 3 = .ok (.iload 5, 2) := by decide +kernel
theorem d11_findReason_5 : decode y11_findReason.2.1 5 = .ok (.bipush 10, 2) := by decide +kernel
theorem d11_findReason_7 : decode y11_findReason.2.1 7 = .ok (.if_icmp .ge 29, 3) := by decide +kernel
theorem d11_findReason_10 : decode y11_findReason.2.1 10 = .ok (.aload_n 0, 1) := by decide +kernel
theorem d11_findReason_11 : decode y11_findReason.2.1 11 = .ok (.getfield 62, 3) := by decide +kernel
theorem d11_findReason_14 : decode y11_findReason.2.1 14 = .ok (.iload 5, 2) := by decide +kernel
theorem d11_findReason_16 : decode y11_findReason.2.1 16 = .ok (.iload 5, 2) := by decide +kernel
theorem d11_findReason_18 : decode y11_findReason.2.1 18 = .ok (.iload_n 2, 1) := by decide +kernel
theorem d11_findReason_19 : decode y11_findReason.2.1 19 = .ok (.if_icmp .ne 7, 3) := by decide +kernel
theorem d11_findReason_22 : decode y11_findReason.2.1 22 = .ok (.lconst 0, 1) := by decide +kernel
theorem d11_findReason_23 : decode y11_findReason.2.1 23 = .ok (.goto 6, 3) := by decide +kernel
theorem d11_findReason_26 : decode y11_findReason.2.1 26 = .ok (.ldc2_w 123, 3) := by decide +kernel
theorem d11_findReason_29 : decode y11_findReason.2.1 29 = .ok (.lastore, 1) := by decide +kernel
theorem d11_findReason_30 : decode y11_findReason.2.1 30 = .ok (.iinc 5 1, 3) := by decide +kernel
theorem d11_findReason_33 : decode y11_findReason.2.1 33 = .ok (.goto (-30), 3) := by decide +kernel
theorem d11_findReason_36 : decode y11_findReason.2.1 36 = .ok (.iconst 1, 1) := by decide +kernel
theorem d11_findReason_37 : decode y11_findReason.2.1 37 = .ok (.istore 5, 2) := by decide +kernel
theorem d11_findReason_39 : decode y11_findReason.2.1 39 = .ok (.aload_n 0, 1) := by decide +kernel
theorem d11_findReason_40 : decode y11_findReason.2.1 40 = .ok (.iconst 1, 1) := by decide +kernel
theorem d11_findReason_41 : decode y11_findReason.2.1 41 = .ok (.invokevirtual 167, 3) := by decide +kernel
theorem d11_findReason_44 : decode y11_findReason.2.1 44 = .ok (.iload 5, 2) := by decide +kernel
theorem d11_findReason_46 : decode y11_findReason.2.1 46 = .ok (.bipush 12, 2) := by decide +kernel
theorem d11_findReason_48 : decode y11_findReason.2.1 48 = .ok (.if_icmp .ge 32, 3) := by decide +kernel
theorem d11_findReason_51 : decode y11_findReason.2.1 51 = .ok (.aload_n 0, 1) := by decide +kernel
theorem d11_findReason_52 : decode y11_findReason.2.1 52 = .ok (.getfield 62, 3) := by decide +kernel
theorem d11_findReason_55 : decode y11_findReason.2.1 55 = .ok (.bipush 10, 2) := by decide +kernel
theorem d11_findReason_57 : decode y11_findReason.2.1 57 = .ok (.iload 5, 2) := by decide +kernel
theorem d11_findReason_59 : decode y11_findReason.2.1 59 = .ok (.imul, 1) := by decide +kernel
theorem d11_findReason_60 : decode y11_findReason.2.1 60 = .ok (.iload_n 1, 1) := by decide +kernel
theorem d11_findReason_61 : decode y11_findReason.2.1 61 = .ok (.iadd, 1) := by decide +kernel
theorem d11_findReason_62 : decode y11_findReason.2.1 62 = .ok (.laload, 1) := by decide +kernel
theorem d11_findReason_63 : decode y11_findReason.2.1 63 = .ok (.lload_n 3, 1) := by decide +kernel
theorem d11_findReason_64 : decode y11_findReason.2.1 64 = .ok (.lcmp, 1) := by decide +kernel
theorem d11_findReason_65 : decode y11_findReason.2.1 65 = .ok (.ifCond .le 15, 3) := by decide +kernel
theorem d11_findReason_68 : decode y11_findReason.2.1 68 = .ok (.iinc 5 1, 3) := by decide +kernel
theorem d11_findReason_71 : decode y11_findReason.2.1 71 = .ok (.aload_n 0, 1) := by decide +kernel
theorem d11_findReason_72 : decode y11_findReason.2.1 72 = .ok (.iload 5, 2) := by decide +kernel
theorem d11_findReason_74 : decode y11_findReason.2.1 74 = .ok (.invokevirtual 167, 3) := by decide +kernel
theorem d11_findReason_77 : decode y11_findReason.2.1 77 = .ok (.goto (-33), 3) := by decide +kernel
theorem d11_findReason_80 : decode y11_findReason.2.1 80 = .ok (.aload_n 0, 1) := by decide +kernel
theorem d11_findReason_81 : decode y11_findReason.2.1 81 = .ok (.getfield 62, 3) := by decide +kernel
theorem d11_findReason_84 : decode y11_findReason.2.1 84 = .ok (.bipush 10, 2) := by decide +kernel
theorem d11_findReason_86 : decode y11_findReason.2.1 86 = .ok (.iload 5, 2) := by decide +kernel
theorem d11_findReason_88 : decode y11_findReason.2.1 88 = .ok (.imul, 1) := by decide +kernel
theorem d11_findReason_89 : decode y11_findReason.2.1 89 = .ok (.iload_n 1, 1) := by decide +kernel
theorem d11_findReason_90 : decode y11_findReason.2.1 90 = .ok (.iadd, 1) := by decide +kernel
theorem d11_findReason_91 : decode y11_findReason.2.1 91 = .ok (.laload, 1) := by decide +kernel
theorem d11_findReason_92 : decode y11_findReason.2.1 92 = .ok (.lload_n 3, 1) := by decide +kernel
theorem d11_findReason_93 : decode y11_findReason.2.1 93 = .ok (.lcmp, 1) := by decide +kernel
theorem d11_findReason_94 : decode y11_findReason.2.1 94 = .ok (.ifCond .le 5, 3) := by decide +kernel
theorem d11_findReason_97 : decode y11_findReason.2.1 97 = .ok (.iconst 0, 1) := by decide +kernel
theorem d11_findReason_98 : decode y11_findReason.2.1 98 = .ok (.ireturn, 1) := by decide +kernel
theorem d11_findReason_99 : decode y11_findReason.2.1 99 = .ok (.aload_n 0, 1) := by decide +kernel
theorem d11_findReason_100 : decode y11_findReason.2.1 100 = .ok (.iload 5, 2) := by decide +kernel
theorem d11_findReason_102 : decode y11_findReason.2.1 102 = .ok (.putfield 170, 3) := by decide +kernel
theorem d11_findReason_105 : decode y11_findReason.2.1 105 = .ok (.iload_n 1, 1) := by decide +kernel
theorem d11_findReason_106 : decode y11_findReason.2.1 106 = .ok (.istore 6, 2) := by decide +kernel
theorem d11_findReason_108 : decode y11_findReason.2.1 108 = .ok (.lload_n 3, 1) := by decide +kernel
theorem d11_findReason_109 : decode y11_findReason.2.1 109 = .ok (.lstore 7, 2) := by decide +kernel
theorem d11_findReason_111 : decode y11_findReason.2.1 111 = .ok (.iconst 0, 1) := by decide +kernel
theorem d11_findReason_112 : decode y11_findReason.2.1 112 = .ok (.istore 9, 2) := by decide +kernel
theorem d11_findReason_114 : decode y11_findReason.2.1 114 = .ok (.iload 9, 2) := by decide +kernel
theorem d11_findReason_116 : decode y11_findReason.2.1 116 = .ok (.iload 5, 2) := by decide +kernel
theorem d11_findReason_118 : decode y11_findReason.2.1 118 = .ok (.if_icmp .ge 160, 3) := by decide +kernel
theorem d11_findReason_121 : decode y11_findReason.2.1 121 = .ok (.iconst (-1), 1) := by decide +kernel
theorem d11_findReason_122 : decode y11_findReason.2.1 122 = .ok (.istore 10, 2) := by decide +kernel
theorem d11_findReason_124 : decode y11_findReason.2.1 124 = .ok (.iconst 0, 1) := by decide +kernel
theorem d11_findReason_125 : decode y11_findReason.2.1 125 = .ok (.istore 11, 2) := by decide +kernel
theorem d11_findReason_127 : decode y11_findReason.2.1 127 = .ok (.iload 11, 2) := by decide +kernel
theorem d11_findReason_129 : decode y11_findReason.2.1 129 = .ok (.aload_n 0, 1) := by decide +kernel
theorem d11_findReason_130 : decode y11_findReason.2.1 130 = .ok (.getfield 100, 3) := by decide +kernel
theorem d11_findReason_133 : decode y11_findReason.2.1 133 = .ok (.if_icmp .ge 109, 3) := by decide +kernel
theorem d11_findReason_136 : decode y11_findReason.2.1 136 = .ok (.aload_n 0, 1) := by decide +kernel
theorem d11_findReason_137 : decode y11_findReason.2.1 137 = .ok (.getfield 62, 3) := by decide +kernel
theorem d11_findReason_140 : decode y11_findReason.2.1 140 = .ok (.bipush 10, 2) := by decide +kernel
theorem d11_findReason_142 : decode y11_findReason.2.1 142 = .ok (.iload 5, 2) := by decide +kernel
theorem d11_findReason_144 : decode y11_findReason.2.1 144 = .ok (.iconst 1, 1) := by decide +kernel
theorem d11_findReason_145 : decode y11_findReason.2.1 145 = .ok (.isub, 1) := by decide +kernel
theorem d11_findReason_146 : decode y11_findReason.2.1 146 = .ok (.iload 9, 2) := by decide +kernel
theorem d11_findReason_148 : decode y11_findReason.2.1 148 = .ok (.isub, 1) := by decide +kernel
theorem d11_findReason_149 : decode y11_findReason.2.1 149 = .ok (.imul, 1) := by decide +kernel
theorem d11_findReason_150 : decode y11_findReason.2.1 150 = .ok (.aload_n 0, 1) := by decide +kernel
theorem d11_findReason_151 : decode y11_findReason.2.1 151 = .ok (.getfield 42, 3) := by decide +kernel
theorem d11_findReason_154 : decode y11_findReason.2.1 154 = .ok (.iload 11, 2) := by decide +kernel
theorem d11_findReason_156 : decode y11_findReason.2.1 156 = .ok (.iaload, 1) := by decide +kernel
theorem d11_findReason_157 : decode y11_findReason.2.1 157 = .ok (.iadd, 1) := by decide +kernel
theorem d11_findReason_158 : decode y11_findReason.2.1 158 = .ok (.laload, 1) := by decide +kernel
theorem d11_findReason_159 : decode y11_findReason.2.1 159 = .ok (.lstore 12, 2) := by decide +kernel
theorem d11_findReason_161 : decode y11_findReason.2.1 161 = .ok (.aload_n 0, 1) := by decide +kernel
theorem d11_findReason_162 : decode y11_findReason.2.1 162 = .ok (.getfield 39, 3) := by decide +kernel
theorem d11_findReason_165 : decode y11_findReason.2.1 165 = .ok (.iload 11, 2) := by decide +kernel
theorem d11_findReason_167 : decode y11_findReason.2.1 167 = .ok (.iaload, 1) := by decide +kernel
theorem d11_findReason_168 : decode y11_findReason.2.1 168 = .ok (.iload 6, 2) := by decide +kernel
theorem d11_findReason_170 : decode y11_findReason.2.1 170 = .ok (.if_icmp .ne 32, 3) := by decide +kernel
theorem d11_findReason_173 : decode y11_findReason.2.1 173 = .ok (.lload 12, 2) := by decide +kernel
theorem d11_findReason_175 : decode y11_findReason.2.1 175 = .ok (.ldc2_w 123, 3) := by decide +kernel
theorem d11_findReason_178 : decode y11_findReason.2.1 178 = .ok (.lcmp, 1) := by decide +kernel
theorem d11_findReason_179 : decode y11_findReason.2.1 179 = .ok (.ifCond .ge 23, 3) := by decide +kernel
theorem d11_findReason_182 : decode y11_findReason.2.1 182 = .ok (.aload_n 0, 1) := by decide +kernel
theorem d11_findReason_183 : decode y11_findReason.2.1 183 = .ok (.getfield 45, 3) := by decide +kernel
theorem d11_findReason_186 : decode y11_findReason.2.1 186 = .ok (.iload 11, 2) := by decide +kernel
theorem d11_findReason_188 : decode y11_findReason.2.1 188 = .ok (.laload, 1) := by decide +kernel
theorem d11_findReason_189 : decode y11_findReason.2.1 189 = .ok (.lload 12, 2) := by decide +kernel
theorem d11_findReason_191 : decode y11_findReason.2.1 191 = .ok (.ladd, 1) := by decide +kernel
theorem d11_findReason_192 : decode y11_findReason.2.1 192 = .ok (.lload 7, 2) := by decide +kernel
theorem d11_findReason_194 : decode y11_findReason.2.1 194 = .ok (.lcmp, 1) := by decide +kernel
theorem d11_findReason_195 : decode y11_findReason.2.1 195 = .ok (.ifCond .gt 7, 3) := by decide +kernel
theorem d11_findReason_198 : decode y11_findReason.2.1 198 = .ok (.iconst 1, 1) := by decide +kernel
theorem d11_findReason_199 : decode y11_findReason.2.1 199 = .ok (.goto 4, 3) := by decide +kernel
theorem d11_findReason_202 : decode y11_findReason.2.1 202 = .ok (.iconst 0, 1) := by decide +kernel
theorem d11_findReason_203 : decode y11_findReason.2.1 203 = .ok (.istore 14, 2) := by decide +kernel
theorem d11_findReason_205 : decode y11_findReason.2.1 205 = .ok (.iload 14, 2) := by decide +kernel
theorem d11_findReason_207 : decode y11_findReason.2.1 207 = .ok (.ifCond .eq 29, 3) := by decide +kernel
theorem d11_findReason_210 : decode y11_findReason.2.1 210 = .ok (.iload 10, 2) := by decide +kernel
theorem d11_findReason_212 : decode y11_findReason.2.1 212 = .ok (.ifCond .lt 20, 3) := by decide +kernel
theorem d11_findReason_215 : decode y11_findReason.2.1 215 = .ok (.aload_n 0, 1) := by decide +kernel
theorem d11_findReason_216 : decode y11_findReason.2.1 216 = .ok (.getfield 36, 3) := by decide +kernel
theorem d11_findReason_219 : decode y11_findReason.2.1 219 = .ok (.iload 11, 2) := by decide +kernel
theorem d11_findReason_221 : decode y11_findReason.2.1 221 = .ok (.iaload, 1) := by decide +kernel
theorem d11_findReason_222 : decode y11_findReason.2.1 222 = .ok (.aload_n 0, 1) := by decide +kernel
theorem d11_findReason_223 : decode y11_findReason.2.1 223 = .ok (.getfield 36, 3) := by decide +kernel
theorem d11_findReason_226 : decode y11_findReason.2.1 226 = .ok (.iload 10, 2) := by decide +kernel
theorem d11_findReason_228 : decode y11_findReason.2.1 228 = .ok (.iaload, 1) := by decide +kernel
theorem d11_findReason_229 : decode y11_findReason.2.1 229 = .ok (.if_icmp .ge 7, 3) := by decide +kernel
theorem d11_findReason_232 : decode y11_findReason.2.1 232 = .ok (.iload 11, 2) := by decide +kernel
theorem d11_findReason_234 : decode y11_findReason.2.1 234 = .ok (.istore 10, 2) := by decide +kernel
theorem d11_findReason_236 : decode y11_findReason.2.1 236 = .ok (.iinc 11 1, 3) := by decide +kernel
theorem d11_findReason_239 : decode y11_findReason.2.1 239 = .ok (.goto (-112), 3) := by decide +kernel
theorem d11_findReason_242 : decode y11_findReason.2.1 242 = .ok (.aload_n 0, 1) := by decide +kernel
theorem d11_findReason_243 : decode y11_findReason.2.1 243 = .ok (.getfield 65, 3) := by decide +kernel
theorem d11_findReason_246 : decode y11_findReason.2.1 246 = .ok (.iload 9, 2) := by decide +kernel
theorem d11_findReason_248 : decode y11_findReason.2.1 248 = .ok (.iload 10, 2) := by decide +kernel
theorem d11_findReason_250 : decode y11_findReason.2.1 250 = .ok (.iastore, 1) := by decide +kernel
theorem d11_findReason_251 : decode y11_findReason.2.1 251 = .ok (.lload 7, 2) := by decide +kernel
theorem d11_findReason_253 : decode y11_findReason.2.1 253 = .ok (.aload_n 0, 1) := by decide +kernel
theorem d11_findReason_254 : decode y11_findReason.2.1 254 = .ok (.getfield 45, 3) := by decide +kernel
theorem d11_findReason_257 : decode y11_findReason.2.1 257 = .ok (.iload 10, 2) := by decide +kernel
theorem d11_findReason_259 : decode y11_findReason.2.1 259 = .ok (.laload, 1) := by decide +kernel
theorem d11_findReason_260 : decode y11_findReason.2.1 260 = .ok (.lsub, 1) := by decide +kernel
theorem d11_findReason_261 : decode y11_findReason.2.1 261 = .ok (.lstore 7, 2) := by decide +kernel
theorem d11_findReason_263 : decode y11_findReason.2.1 263 = .ok (.aload_n 0, 1) := by decide +kernel
theorem d11_findReason_264 : decode y11_findReason.2.1 264 = .ok (.getfield 42, 3) := by decide +kernel
theorem d11_findReason_267 : decode y11_findReason.2.1 267 = .ok (.iload 10, 2) := by decide +kernel
theorem d11_findReason_269 : decode y11_findReason.2.1 269 = .ok (.iaload, 1) := by decide +kernel
theorem d11_findReason_270 : decode y11_findReason.2.1 270 = .ok (.istore 6, 2) := by decide +kernel
theorem d11_findReason_272 : decode y11_findReason.2.1 272 = .ok (.iinc 9 1, 3) := by decide +kernel
theorem d11_findReason_275 : decode y11_findReason.2.1 275 = .ok (.goto (-161), 3) := by decide +kernel
theorem d11_findReason_278 : decode y11_findReason.2.1 278 = .ok (.iconst 1, 1) := by decide +kernel
theorem d11_findReason_279 : decode y11_findReason.2.1 279 = .ok (.ireturn, 1) := by decide +kernel
theorem d11_findRests_0 : decode y11_findRests.2.1 0 = .ok (.iconst 0, 1) := by decide +kernel
theorem d11_findRests_1 : decode y11_findRests.2.1 1 = .ok (.istore_n 2, 1) := by decide +kernel
theorem d11_findRests_2 : decode y11_findRests.2.1 2 = .ok (.iload_n 2, 1) := by decide +kernel
theorem d11_findRests_3 : decode y11_findRests.2.1 3 = .ok (.bipush 10, 2) := by decide +kernel
theorem d11_findRests_5 : decode y11_findRests.2.1 5 = .ok (.if_icmp .ge 23, 3) := by decide +kernel
theorem d11_findRests_8 : decode y11_findRests.2.1 8 = .ok (.aload_n 0, 1) := by decide +kernel
theorem d11_findRests_9 : decode y11_findRests.2.1 9 = .ok (.getfield 62, 3) := by decide +kernel
theorem d11_findRests_12 : decode y11_findRests.2.1 12 = .ok (.bipush 10, 2) := by decide +kernel
theorem d11_findRests_14 : decode y11_findRests.2.1 14 = .ok (.iload_n 1, 1) := by decide +kernel
theorem d11_findRests_15 : decode y11_findRests.2.1 15 = .ok (.imul, 1) := by decide +kernel
theorem d11_findRests_16 : decode y11_findRests.2.1 16 = .ok (.iload_n 2, 1) := by decide +kernel
theorem d11_findRests_17 : decode y11_findRests.2.1 17 = .ok (.iadd, 1) := by decide +kernel
theorem d11_findRests_18 : decode y11_findRests.2.1 18 = .ok (.ldc2_w 123, 3) := by decide +kernel
theorem d11_findRests_21 : decode y11_findRests.2.1 21 = .ok (.lastore, 1) := by decide +kernel
theorem d11_findRests_22 : decode y11_findRests.2.1 22 = .ok (.iinc 2 1, 3) := by decide +kernel
theorem d11_findRests_25 : decode y11_findRests.2.1 25 = .ok (.goto (-23), 3) := by decide +kernel
theorem d11_findRests_28 : decode y11_findRests.2.1 28 = .ok (.iconst 0, 1) := by decide +kernel
theorem d11_findRests_29 : decode y11_findRests.2.1 29 = .ok (.istore_n 2, 1) := by decide +kernel
theorem d11_findRests_30 : decode y11_findRests.2.1 30 = .ok (.iload_n 2, 1) := by decide +kernel
theorem d11_findRests_31 : decode y11_findRests.2.1 31 = .ok (.aload_n 0, 1) := by decide +kernel
theorem d11_findRests_32 : decode y11_findRests.2.1 32 = .ok (.getfield 100, 3) := by decide +kernel
theorem d11_findRests_35 : decode y11_findRests.2.1 35 = .ok (.if_icmp .ge 84, 3) := by decide +kernel
theorem d11_findRests_38 : decode y11_findRests.2.1 38 = .ok (.aload_n 0, 1) := by decide +kernel
theorem d11_findRests_39 : decode y11_findRests.2.1 39 = .ok (.getfield 62, 3) := by decide +kernel
theorem d11_findRests_42 : decode y11_findRests.2.1 42 = .ok (.bipush 10, 2) := by decide +kernel
theorem d11_findRests_44 : decode y11_findRests.2.1 44 = .ok (.iload_n 1, 1) := by decide +kernel
theorem d11_findRests_45 : decode y11_findRests.2.1 45 = .ok (.imul, 1) := by decide +kernel
theorem d11_findRests_46 : decode y11_findRests.2.1 46 = .ok (.bipush 10, 2) := by decide +kernel
theorem d11_findRests_48 : decode y11_findRests.2.1 48 = .ok (.isub, 1) := by decide +kernel
theorem d11_findRests_49 : decode y11_findRests.2.1 49 = .ok (.aload_n 0, 1) := by decide +kernel
theorem d11_findRests_50 : decode y11_findRests.2.1 50 = .ok (.getfield 42, 3) := by decide +kernel
theorem d11_findRests_53 : decode y11_findRests.2.1 53 = .ok (.iload_n 2, 1) := by decide +kernel
theorem d11_findRests_54 : decode y11_findRests.2.1 54 = .ok (.iaload, 1) := by decide +kernel
theorem d11_findRests_55 : decode y11_findRests.2.1 55 = .ok (.iadd, 1) := by decide +kernel
theorem d11_findRests_56 : decode y11_findRests.2.1 56 = .ok (.laload, 1) := by decide +kernel
theorem d11_findRests_57 : decode y11_findRests.2.1 57 = .ok (.lstore_n 3, 1) := by decide +kernel
theorem d11_findRests_58 : decode y11_findRests.2.1 58 = .ok (.bipush 10, 2) := by decide +kernel
theorem d11_findRests_60 : decode y11_findRests.2.1 60 = .ok (.iload_n 1, 1) := by decide +kernel
theorem d11_findRests_61 : decode y11_findRests.2.1 61 = .ok (.imul, 1) := by decide +kernel
theorem d11_findRests_62 : decode y11_findRests.2.1 62 = .ok (.aload_n 0, 1) := by decide +kernel
theorem d11_findRests_63 : decode y11_findRests.2.1 63 = .ok (.getfield 39, 3) := by decide +kernel
theorem d11_findRests_66 : decode y11_findRests.2.1 66 = .ok (.iload_n 2, 1) := by decide +kernel
theorem d11_findRests_67 : decode y11_findRests.2.1 67 = .ok (.iaload, 1) := by decide +kernel
theorem d11_findRests_68 : decode y11_findRests.2.1 68 = .ok (.iadd, 1) := by decide +kernel
theorem d11_findRests_69 : decode y11_findRests.2.1 69 = .ok (.istore 5, 2) := by decide +kernel
theorem d11_findRests_71 : decode y11_findRests.2.1 71 = .ok (.lload_n 3, 1) := by decide +kernel
theorem d11_findRests_72 : decode y11_findRests.2.1 72 = .ok (.ldc2_w 123, 3) := by decide +kernel
theorem d11_findRests_75 : decode y11_findRests.2.1 75 = .ok (.lcmp, 1) := by decide +kernel
theorem d11_findRests_76 : decode y11_findRests.2.1 76 = .ok (.ifCond .ge 37, 3) := by decide +kernel
theorem d11_findRests_79 : decode y11_findRests.2.1 79 = .ok (.aload_n 0, 1) := by decide +kernel
theorem d11_findRests_80 : decode y11_findRests.2.1 80 = .ok (.getfield 45, 3) := by decide +kernel
theorem d11_findRests_83 : decode y11_findRests.2.1 83 = .ok (.iload_n 2, 1) := by decide +kernel
theorem d11_findRests_84 : decode y11_findRests.2.1 84 = .ok (.laload, 1) := by decide +kernel
theorem d11_findRests_85 : decode y11_findRests.2.1 85 = .ok (.lload_n 3, 1) := by decide +kernel
theorem d11_findRests_86 : decode y11_findRests.2.1 86 = .ok (.ladd, 1) := by decide +kernel
theorem d11_findRests_87 : decode y11_findRests.2.1 87 = .ok (.aload_n 0, 1) := by decide +kernel
theorem d11_findRests_88 : decode y11_findRests.2.1 88 = .ok (.getfield 62, 3) := by decide +kernel
theorem d11_findRests_91 : decode y11_findRests.2.1 91 = .ok (.iload 5, 2) := by decide +kernel
theorem d11_findRests_93 : decode y11_findRests.2.1 93 = .ok (.laload, 1) := by decide +kernel
theorem d11_findRests_94 : decode y11_findRests.2.1 94 = .ok (.lcmp, 1) := by decide +kernel
theorem d11_findRests_95 : decode y11_findRests.2.1 95 = .ok (.ifCond .ge 18, 3) := by decide +kernel
theorem d11_findRests_98 : decode y11_findRests.2.1 98 = .ok (.aload_n 0, 1) := by decide +kernel
theorem d11_findRests_99 : decode y11_findRests.2.1 99 = .ok (.getfield 62, 3) := by decide +kernel
theorem d11_findRests_102 : decode y11_findRests.2.1 102 = .ok (.iload 5, 2) := by decide +kernel
theorem d11_findRests_104 : decode y11_findRests.2.1 104 = .ok (.aload_n 0, 1) := by decide +kernel
theorem d11_findRests_105 : decode y11_findRests.2.1 105 = .ok (.getfield 45, 3) := by decide +kernel
theorem d11_findRests_108 : decode y11_findRests.2.1 108 = .ok (.iload_n 2, 1) := by decide +kernel
theorem d11_findRests_109 : decode y11_findRests.2.1 109 = .ok (.laload, 1) := by decide +kernel
theorem d11_findRests_110 : decode y11_findRests.2.1 110 = .ok (.lload_n 3, 1) := by decide +kernel
theorem d11_findRests_111 : decode y11_findRests.2.1 111 = .ok (.ladd, 1) := by decide +kernel
theorem d11_findRests_112 : decode y11_findRests.2.1 112 = .ok (.lastore, 1) := by decide +kernel
theorem d11_findRests_113 : decode y11_findRests.2.1 113 = .ok (.iinc 2 1, 3) := by decide +kernel
theorem d11_findRests_116 : decode y11_findRests.2.1 116 = .ok (.goto (-86), 3) := by decide +kernel
theorem d11_findRests_119 : decode y11_findRests.2.1 119 = .ok (.return_, 1) := by decide +kernel
theorem d11_upper_0 : decode y11_upper.2.1 0 = .ok (.aload_n 0, 1) := by decide +kernel
theorem d11_upper_1 : decode y11_upper.2.1 1 = .ok (.getfield 7, 3) := by decide +kernel
theorem d11_upper_4 : decode y11_upper.2.1 4 = .ok (.iload_n 1, 1) := by decide +kernel
theorem d11_upper_5 : decode y11_upper.2.1 5 = .ok (.iaload, 1) := by decide +kernel
theorem d11_upper_6 : decode y11_upper.2.1 6 = .ok (.bipush 10, 2) := by decide +kernel
theorem d11_upper_8 : decode y11_upper.2.1 8 = .ok (.if_icmp .le 7, 3) := by decide +kernel
theorem d11_upper_11 : decode y11_upper.2.1 11 = .ok (.iconst 0, 1) := by decide +kernel
theorem d11_upper_12 : decode y11_upper.2.1 12 = .ok (.goto 5, 3) := by decide +kernel
theorem d11_upper_15 : decode y11_upper.2.1 15 = .ok (.bipush 9, 2) := by decide +kernel
theorem d11_upper_17 : decode y11_upper.2.1 17 = .ok (.ireturn, 1) := by decide +kernel
theorem d11_greatest_0 : decode y11_greatest.2.1 0 = .ok (.aload_n 0, 1) := by decide +kernel
theorem d11_greatest_1 : decode y11_greatest.2.1 1 = .ok (.getfield 7, 3) := by decide +kernel
theorem d11_greatest_4 : decode y11_greatest.2.1 4 = .ok (.iload_n 1, 1) := by decide +kernel
theorem d11_greatest_5 : decode y11_greatest.2.1 5 = .ok (.iaload, 1) := by decide +kernel
theorem d11_greatest_6 : decode y11_greatest.2.1 6 = .ok (.bipush 10, 2) := by decide +kernel
theorem d11_greatest_8 : decode y11_greatest.2.1 8 = .ok (.if_icmp .le 17, 3) := by decide +kernel
theorem d11_greatest_11 : decode y11_greatest.2.1 11 = .ok (.ldc2_w 177, 3) := by decide +kernel
theorem d11_greatest_14 : decode y11_greatest.2.1 14 = .ok (.aload_n 0, 1) := by decide +kernel
theorem d11_greatest_15 : decode y11_greatest.2.1 15 = .ok (.getfield 19, 3) := by decide +kernel
theorem d11_greatest_18 : decode y11_greatest.2.1 18 = .ok (.iload_n 1, 1) := by decide +kernel
theorem d11_greatest_19 : decode y11_greatest.2.1 19 = .ok (.iaload, 1) := by decide +kernel
theorem d11_greatest_20 : decode y11_greatest.2.1 20 = .ok (.i2l, 1) := by decide +kernel
theorem d11_greatest_21 : decode y11_greatest.2.1 21 = .ok (.lsub, 1) := by decide +kernel
theorem d11_greatest_22 : decode y11_greatest.2.1 22 = .ok (.goto 22, 3) := by decide +kernel
theorem d11_greatest_25 : decode y11_greatest.2.1 25 = .ok (.aload_n 0, 1) := by decide +kernel
theorem d11_greatest_26 : decode y11_greatest.2.1 26 = .ok (.getfield 19, 3) := by decide +kernel
theorem d11_greatest_29 : decode y11_greatest.2.1 29 = .ok (.iload_n 1, 1) := by decide +kernel
theorem d11_greatest_30 : decode y11_greatest.2.1 30 = .ok (.iaload, 1) := by decide +kernel
theorem d11_greatest_31 : decode y11_greatest.2.1 31 = .ok (.i2l, 1) := by decide +kernel
theorem d11_greatest_32 : decode y11_greatest.2.1 32 = .ok (.lneg, 1) := by decide +kernel
theorem d11_greatest_33 : decode y11_greatest.2.1 33 = .ok (.aload_n 0, 1) := by decide +kernel
theorem d11_greatest_34 : decode y11_greatest.2.1 34 = .ok (.getfield 7, 3) := by decide +kernel
theorem d11_greatest_37 : decode y11_greatest.2.1 37 = .ok (.iload_n 1, 1) := by decide +kernel
theorem d11_greatest_38 : decode y11_greatest.2.1 38 = .ok (.iaload, 1) := by decide +kernel
theorem d11_greatest_39 : decode y11_greatest.2.1 39 = .ok (.invokestatic 179, 3) := by decide +kernel
theorem d11_greatest_42 : decode y11_greatest.2.1 42 = .ok (.i2l, 1) := by decide +kernel
theorem d11_greatest_43 : decode y11_greatest.2.1 43 = .ok (.lsub, 1) := by decide +kernel
theorem d11_greatest_44 : decode y11_greatest.2.1 44 = .ok (.lreturn, 1) := by decide +kernel
theorem d11_sizeOf_0 : decode y11_sizeOf.2.1 0 = .ok (.iload_n 0, 1) := by decide +kernel
theorem d11_sizeOf_1 : decode y11_sizeOf.2.1 1 = .ok (.bipush 8, 2) := by decide +kernel
theorem d11_sizeOf_3 : decode y11_sizeOf.2.1 3 = .ok (.if_icmp .ne 7, 3) := by decide +kernel
theorem d11_sizeOf_6 : decode y11_sizeOf.2.1 6 = .ok (.iconst 1, 1) := by decide +kernel
theorem d11_sizeOf_7 : decode y11_sizeOf.2.1 7 = .ok (.goto 14, 3) := by decide +kernel
theorem d11_sizeOf_10 : decode y11_sizeOf.2.1 10 = .ok (.iload_n 0, 1) := by decide +kernel
theorem d11_sizeOf_11 : decode y11_sizeOf.2.1 11 = .ok (.bipush 9, 2) := by decide +kernel
theorem d11_sizeOf_13 : decode y11_sizeOf.2.1 13 = .ok (.if_icmp .ne 7, 3) := by decide +kernel
theorem d11_sizeOf_16 : decode y11_sizeOf.2.1 16 = .ok (.iconst 2, 1) := by decide +kernel
theorem d11_sizeOf_17 : decode y11_sizeOf.2.1 17 = .ok (.goto 4, 3) := by decide +kernel
theorem d11_sizeOf_20 : decode y11_sizeOf.2.1 20 = .ok (.iconst 4, 1) := by decide +kernel
theorem d11_sizeOf_21 : decode y11_sizeOf.2.1 21 = .ok (.ireturn, 1) := by decide +kernel
theorem d11_needChosen_0 : decode y11_needChosen.2.1 0 = .ok (.iconst 0, 1) := by decide +kernel
theorem d11_needChosen_1 : decode y11_needChosen.2.1 1 = .ok (.istore_n 2, 1) := by decide +kernel
theorem d11_needChosen_2 : decode y11_needChosen.2.1 2 = .ok (.iload_n 2, 1) := by decide +kernel
theorem d11_needChosen_3 : decode y11_needChosen.2.1 3 = .ok (.aload_n 0, 1) := by decide +kernel
theorem d11_needChosen_4 : decode y11_needChosen.2.1 4 = .ok (.getfield 170, 3) := by decide +kernel
theorem d11_needChosen_7 : decode y11_needChosen.2.1 7 = .ok (.if_icmp .ge 88, 3) := by decide +kernel
theorem d11_needChosen_10 : decode y11_needChosen.2.1 10 = .ok (.aload_n 0, 1) := by decide +kernel
theorem d11_needChosen_11 : decode y11_needChosen.2.1 11 = .ok (.getfield 36, 3) := by decide +kernel
theorem d11_needChosen_14 : decode y11_needChosen.2.1 14 = .ok (.aload_n 0, 1) := by decide +kernel
theorem d11_needChosen_15 : decode y11_needChosen.2.1 15 = .ok (.getfield 65, 3) := by decide +kernel
theorem d11_needChosen_18 : decode y11_needChosen.2.1 18 = .ok (.iload_n 2, 1) := by decide +kernel
theorem d11_needChosen_19 : decode y11_needChosen.2.1 19 = .ok (.iaload, 1) := by decide +kernel
theorem d11_needChosen_20 : decode y11_needChosen.2.1 20 = .ok (.iaload, 1) := by decide +kernel
theorem d11_needChosen_21 : decode y11_needChosen.2.1 21 = .ok (.istore_n 3, 1) := by decide +kernel
theorem d11_needChosen_22 : decode y11_needChosen.2.1 22 = .ok (.iload_n 3, 1) := by decide +kernel
theorem d11_needChosen_23 : decode y11_needChosen.2.1 23 = .ok (.bipush 100, 2) := by decide +kernel
theorem d11_needChosen_25 : decode y11_needChosen.2.1 25 = .ok (.if_icmp .ge 18, 3) := by decide +kernel
theorem d11_needChosen_28 : decode y11_needChosen.2.1 28 = .ok (.aload_n 0, 1) := by decide +kernel
theorem d11_needChosen_29 : decode y11_needChosen.2.1 29 = .ok (.getfield 68, 3) := by decide +kernel
theorem d11_needChosen_32 : decode y11_needChosen.2.1 32 = .ok (.bipush 100, 2) := by decide +kernel
theorem d11_needChosen_34 : decode y11_needChosen.2.1 34 = .ok (.iload_n 1, 1) := by decide +kernel
theorem d11_needChosen_35 : decode y11_needChosen.2.1 35 = .ok (.imul, 1) := by decide +kernel
theorem d11_needChosen_36 : decode y11_needChosen.2.1 36 = .ok (.iload_n 3, 1) := by decide +kernel
theorem d11_needChosen_37 : decode y11_needChosen.2.1 37 = .ok (.iadd, 1) := by decide +kernel
theorem d11_needChosen_38 : decode y11_needChosen.2.1 38 = .ok (.iconst 1, 1) := by decide +kernel
theorem d11_needChosen_39 : decode y11_needChosen.2.1 39 = .ok (.bastore, 1) := by decide +kernel
theorem d11_needChosen_40 : decode y11_needChosen.2.1 40 = .ok (.goto 49, 3) := by decide +kernel
theorem d11_needChosen_43 : decode y11_needChosen.2.1 43 = .ok (.aload_n 0, 1) := by decide +kernel
theorem d11_needChosen_44 : decode y11_needChosen.2.1 44 = .ok (.getfield 7, 3) := by decide +kernel
theorem d11_needChosen_47 : decode y11_needChosen.2.1 47 = .ok (.iload_n 1, 1) := by decide +kernel
theorem d11_needChosen_48 : decode y11_needChosen.2.1 48 = .ok (.iaload, 1) := by decide +kernel
theorem d11_needChosen_49 : decode y11_needChosen.2.1 49 = .ok (.iconst 4, 1) := by decide +kernel
theorem d11_needChosen_50 : decode y11_needChosen.2.1 50 = .ok (.if_icmp .ne 39, 3) := by decide +kernel
theorem d11_needChosen_53 : decode y11_needChosen.2.1 53 = .ok (.aload_n 0, 1) := by decide +kernel
theorem d11_needChosen_54 : decode y11_needChosen.2.1 54 = .ok (.getfield 68, 3) := by decide +kernel
theorem d11_needChosen_57 : decode y11_needChosen.2.1 57 = .ok (.bipush 100, 2) := by decide +kernel
theorem d11_needChosen_59 : decode y11_needChosen.2.1 59 = .ok (.iload_n 1, 1) := by decide +kernel
theorem d11_needChosen_60 : decode y11_needChosen.2.1 60 = .ok (.imul, 1) := by decide +kernel
theorem d11_needChosen_61 : decode y11_needChosen.2.1 61 = .ok (.iload_n 3, 1) := by decide +kernel
theorem d11_needChosen_62 : decode y11_needChosen.2.1 62 = .ok (.bipush 100, 2) := by decide +kernel
theorem d11_needChosen_64 : decode y11_needChosen.2.1 64 = .ok (.isub, 1) := by decide +kernel
theorem d11_needChosen_65 : decode y11_needChosen.2.1 65 = .ok (.bipush 100, 2) := by decide +kernel
theorem d11_needChosen_67 : decode y11_needChosen.2.1 67 = .ok (.idiv, 1) := by decide +kernel
theorem d11_needChosen_68 : decode y11_needChosen.2.1 68 = .ok (.iadd, 1) := by decide +kernel
theorem d11_needChosen_69 : decode y11_needChosen.2.1 69 = .ok (.iconst 1, 1) := by decide +kernel
theorem d11_needChosen_70 : decode y11_needChosen.2.1 70 = .ok (.bastore, 1) := by decide +kernel
theorem d11_needChosen_71 : decode y11_needChosen.2.1 71 = .ok (.aload_n 0, 1) := by decide +kernel
theorem d11_needChosen_72 : decode y11_needChosen.2.1 72 = .ok (.getfield 68, 3) := by decide +kernel
theorem d11_needChosen_75 : decode y11_needChosen.2.1 75 = .ok (.bipush 100, 2) := by decide +kernel
theorem d11_needChosen_77 : decode y11_needChosen.2.1 77 = .ok (.iload_n 1, 1) := by decide +kernel
theorem d11_needChosen_78 : decode y11_needChosen.2.1 78 = .ok (.imul, 1) := by decide +kernel
theorem d11_needChosen_79 : decode y11_needChosen.2.1 79 = .ok (.iload_n 3, 1) := by decide +kernel
theorem d11_needChosen_80 : decode y11_needChosen.2.1 80 = .ok (.bipush 100, 2) := by decide +kernel
theorem d11_needChosen_82 : decode y11_needChosen.2.1 82 = .ok (.isub, 1) := by decide +kernel
theorem d11_needChosen_83 : decode y11_needChosen.2.1 83 = .ok (.bipush 100, 2) := by decide +kernel
theorem d11_needChosen_85 : decode y11_needChosen.2.1 85 = .ok (.irem, 1) := by decide +kernel
theorem d11_needChosen_86 : decode y11_needChosen.2.1 86 = .ok (.iadd, 1) := by decide +kernel
theorem d11_needChosen_87 : decode y11_needChosen.2.1 87 = .ok (.iconst 1, 1) := by decide +kernel
theorem d11_needChosen_88 : decode y11_needChosen.2.1 88 = .ok (.bastore, 1) := by decide +kernel
theorem d11_needChosen_89 : decode y11_needChosen.2.1 89 = .ok (.iinc 2 1, 3) := by decide +kernel
theorem d11_needChosen_92 : decode y11_needChosen.2.1 92 = .ok (.goto (-90), 3) := by decide +kernel
theorem d11_needChosen_95 : decode y11_needChosen.2.1 95 = .ok (.return_, 1) := by decide +kernel
theorem d11_findRound_0 : decode y11_findRound.2.1 0 = .ok (.iconst 0, 1) := by decide +kernel
theorem d11_findRound_1 : decode y11_findRound.2.1 1 = .ok (.istore_n 1, 1) := by decide +kernel
theorem d11_findRound_2 : decode y11_findRound.2.1 2 = .ok (.iload_n 1, 1) := by decide +kernel
theorem d11_findRound_3 : decode y11_findRound.2.1 3 = .ok (.bipush 10, 2) := by decide +kernel
theorem d11_findRound_5 : decode y11_findRound.2.1 5 = .ok (.if_icmp .ge 23, 3) := by decide +kernel
theorem d11_findRound_8 : decode y11_findRound.2.1 8 = .ok (.aload_n 0, 1) := by decide +kernel
theorem d11_findRound_9 : decode y11_findRound.2.1 9 = .ok (.iload_n 1, 1) := by decide +kernel
theorem d11_findRound_10 : decode y11_findRound.2.1 10 = .ok (.iload_n 1, 1) := by decide +kernel
theorem d11_findRound_11 : decode y11_findRound.2.1 11 = .ok (.ldc2_w 119, 3) := by decide +kernel
theorem d11_findRound_14 : decode y11_findRound.2.1 14 = .ok (.invokevirtual 173, 3) := by decide +kernel
theorem d11_findRound_17 : decode y11_findRound.2.1 17 = .ok (.ifCond .eq 5, 3) := by decide +kernel
theorem d11_findRound_20 : decode y11_findRound.2.1 20 = .ok (.iload_n 1, 1) := by decide +kernel
theorem d11_findRound_21 : decode y11_findRound.2.1 21 = .ok (.ireturn, 1) := by decide +kernel
theorem d11_findRound_22 : decode y11_findRound.2.1 22 = .ok (.iinc 1 1, 3) := by decide +kernel
theorem d11_findRound_25 : decode y11_findRound.2.1 25 = .ok (.goto (-23), 3) := by decide +kernel
theorem d11_findRound_28 : decode y11_findRound.2.1 28 = .ok (.iconst (-1), 1) := by decide +kernel
theorem d11_findRound_29 : decode y11_findRound.2.1 29 = .ok (.ireturn, 1) := by decide +kernel
theorem d11_factsAt_0 : decode y11_factsAt.2.1 0 = .ok (.iconst 0, 1) := by decide +kernel
theorem d11_factsAt_1 : decode y11_factsAt.2.1 1 = .ok (.istore_n 2, 1) := by decide +kernel
theorem d11_factsAt_2 : decode y11_factsAt.2.1 2 = .ok (.iconst 0, 1) := by decide +kernel
theorem d11_factsAt_3 : decode y11_factsAt.2.1 3 = .ok (.istore_n 3, 1) := by decide +kernel
theorem d11_factsAt_4 : decode y11_factsAt.2.1 4 = .ok (.iload_n 3, 1) := by decide +kernel
theorem d11_factsAt_5 : decode y11_factsAt.2.1 5 = .ok (.bipush 100, 2) := by decide +kernel
theorem d11_factsAt_7 : decode y11_factsAt.2.1 7 = .ok (.if_icmp .ge 31, 3) := by decide +kernel
theorem d11_factsAt_10 : decode y11_factsAt.2.1 10 = .ok (.iload_n 2, 1) := by decide +kernel
theorem d11_factsAt_11 : decode y11_factsAt.2.1 11 = .ok (.aload_n 0, 1) := by decide +kernel
theorem d11_factsAt_12 : decode y11_factsAt.2.1 12 = .ok (.getfield 68, 3) := by decide +kernel
theorem d11_factsAt_15 : decode y11_factsAt.2.1 15 = .ok (.bipush 100, 2) := by decide +kernel
theorem d11_factsAt_17 : decode y11_factsAt.2.1 17 = .ok (.iload_n 1, 1) := by decide +kernel
theorem d11_factsAt_18 : decode y11_factsAt.2.1 18 = .ok (.imul, 1) := by decide +kernel
theorem d11_factsAt_19 : decode y11_factsAt.2.1 19 = .ok (.iload_n 3, 1) := by decide +kernel
theorem d11_factsAt_20 : decode y11_factsAt.2.1 20 = .ok (.iadd, 1) := by decide +kernel
theorem d11_factsAt_21 : decode y11_factsAt.2.1 21 = .ok (.baload, 1) := by decide +kernel
theorem d11_factsAt_22 : decode y11_factsAt.2.1 22 = .ok (.ifCond .eq 7, 3) := by decide +kernel
theorem d11_factsAt_25 : decode y11_factsAt.2.1 25 = .ok (.iconst 1, 1) := by decide +kernel
theorem d11_factsAt_26 : decode y11_factsAt.2.1 26 = .ok (.goto 4, 3) := by decide +kernel
theorem d11_factsAt_29 : decode y11_factsAt.2.1 29 = .ok (.iconst 0, 1) := by decide +kernel
theorem d11_factsAt_30 : decode y11_factsAt.2.1 30 = .ok (.iadd, 1) := by decide +kernel
theorem d11_factsAt_31 : decode y11_factsAt.2.1 31 = .ok (.istore_n 2, 1) := by decide +kernel
theorem d11_factsAt_32 : decode y11_factsAt.2.1 32 = .ok (.iinc 3 1, 3) := by decide +kernel
theorem d11_factsAt_35 : decode y11_factsAt.2.1 35 = .ok (.goto (-31), 3) := by decide +kernel
theorem d11_factsAt_38 : decode y11_factsAt.2.1 38 = .ok (.iload_n 2, 1) := by decide +kernel
theorem d11_factsAt_39 : decode y11_factsAt.2.1 39 = .ok (.ireturn, 1) := by decide +kernel
theorem d11_tellFacts_0 : decode y11_tellFacts.2.1 0 = .ok (.iconst 0, 1) := by decide +kernel
theorem d11_tellFacts_1 : decode y11_tellFacts.2.1 1 = .ok (.istore_n 1, 1) := by decide +kernel
theorem d11_tellFacts_2 : decode y11_tellFacts.2.1 2 = .ok (.iload_n 1, 1) := by decide +kernel
theorem d11_tellFacts_3 : decode y11_tellFacts.2.1 3 = .ok (.aload_n 0, 1) := by decide +kernel
theorem d11_tellFacts_4 : decode y11_tellFacts.2.1 4 = .ok (.getfield 89, 3) := by decide +kernel
theorem d11_tellFacts_7 : decode y11_tellFacts.2.1 7 = .ok (.if_icmp .ge 103, 3) := by decide +kernel
theorem d11_tellFacts_10 : decode y11_tellFacts.2.1 10 = .ok (.aload_n 0, 1) := by decide +kernel
theorem d11_tellFacts_11 : decode y11_tellFacts.2.1 11 = .ok (.aload_n 0, 1) := by decide +kernel
theorem d11_tellFacts_12 : decode y11_tellFacts.2.1 12 = .ok (.getfield 52, 3) := by decide +kernel
theorem d11_tellFacts_15 : decode y11_tellFacts.2.1 15 = .ok (.iload_n 1, 1) := by decide +kernel
theorem d11_tellFacts_16 : decode y11_tellFacts.2.1 16 = .ok (.baload, 1) := by decide +kernel
theorem d11_tellFacts_17 : decode y11_tellFacts.2.1 17 = .ok (.ifCond .eq 11, 3) := by decide +kernel
theorem d11_tellFacts_20 : decode y11_tellFacts.2.1 20 = .ok (.aload_n 0, 1) := by decide +kernel
theorem d11_tellFacts_21 : decode y11_tellFacts.2.1 21 = .ok (.iload_n 1, 1) := by decide +kernel
theorem d11_tellFacts_22 : decode y11_tellFacts.2.1 22 = .ok (.invokevirtual 203, 3) := by decide +kernel
theorem d11_tellFacts_25 : decode y11_tellFacts.2.1 25 = .ok (.goto 4, 3) := by decide +kernel
theorem d11_tellFacts_28 : decode y11_tellFacts.2.1 28 = .ok (.iconst (-1), 1) := by decide +kernel
theorem d11_tellFacts_29 : decode y11_tellFacts.2.1 29 = .ok (.invokevirtual 208, 3) := by decide +kernel
theorem d11_tellFacts_32 : decode y11_tellFacts.2.1 32 = .ok (.iconst 0, 1) := by decide +kernel
theorem d11_tellFacts_33 : decode y11_tellFacts.2.1 33 = .ok (.istore_n 2, 1) := by decide +kernel
theorem d11_tellFacts_34 : decode y11_tellFacts.2.1 34 = .ok (.iload_n 2, 1) := by decide +kernel
theorem d11_tellFacts_35 : decode y11_tellFacts.2.1 35 = .ok (.bipush 100, 2) := by decide +kernel
theorem d11_tellFacts_37 : decode y11_tellFacts.2.1 37 = .ok (.if_icmp .ge 67, 3) := by decide +kernel
theorem d11_tellFacts_40 : decode y11_tellFacts.2.1 40 = .ok (.aload_n 0, 1) := by decide +kernel
theorem d11_tellFacts_41 : decode y11_tellFacts.2.1 41 = .ok (.getfield 52, 3) := by decide +kernel
theorem d11_tellFacts_44 : decode y11_tellFacts.2.1 44 = .ok (.iload_n 1, 1) := by decide +kernel
theorem d11_tellFacts_45 : decode y11_tellFacts.2.1 45 = .ok (.baload, 1) := by decide +kernel
theorem d11_tellFacts_46 : decode y11_tellFacts.2.1 46 = .ok (.ifCond .eq 58, 3) := by decide +kernel
theorem d11_tellFacts_49 : decode y11_tellFacts.2.1 49 = .ok (.aload_n 0, 1) := by decide +kernel
theorem d11_tellFacts_50 : decode y11_tellFacts.2.1 50 = .ok (.getfield 68, 3) := by decide +kernel
theorem d11_tellFacts_53 : decode y11_tellFacts.2.1 53 = .ok (.bipush 100, 2) := by decide +kernel
theorem d11_tellFacts_55 : decode y11_tellFacts.2.1 55 = .ok (.iload_n 1, 1) := by decide +kernel
theorem d11_tellFacts_56 : decode y11_tellFacts.2.1 56 = .ok (.imul, 1) := by decide +kernel
theorem d11_tellFacts_57 : decode y11_tellFacts.2.1 57 = .ok (.iload_n 2, 1) := by decide +kernel
theorem d11_tellFacts_58 : decode y11_tellFacts.2.1 58 = .ok (.iadd, 1) := by decide +kernel
theorem d11_tellFacts_59 : decode y11_tellFacts.2.1 59 = .ok (.baload, 1) := by decide +kernel
theorem d11_tellFacts_60 : decode y11_tellFacts.2.1 60 = .ok (.ifCond .ne 6, 3) := by decide +kernel
theorem d11_tellFacts_63 : decode y11_tellFacts.2.1 63 = .ok (.goto 35, 3) := by decide +kernel
theorem d11_tellFacts_66 : decode y11_tellFacts.2.1 66 = .ok (.aload_n 0, 1) := by decide +kernel
theorem d11_tellFacts_67 : decode y11_tellFacts.2.1 67 = .ok (.iload_n 2, 1) := by decide +kernel
theorem d11_tellFacts_68 : decode y11_tellFacts.2.1 68 = .ok (.bipush 10, 2) := by decide +kernel
theorem d11_tellFacts_70 : decode y11_tellFacts.2.1 70 = .ok (.idiv, 1) := by decide +kernel
theorem d11_tellFacts_71 : decode y11_tellFacts.2.1 71 = .ok (.invokevirtual 208, 3) := by decide +kernel
theorem d11_tellFacts_74 : decode y11_tellFacts.2.1 74 = .ok (.aload_n 0, 1) := by decide +kernel
theorem d11_tellFacts_75 : decode y11_tellFacts.2.1 75 = .ok (.iload_n 2, 1) := by decide +kernel
theorem d11_tellFacts_76 : decode y11_tellFacts.2.1 76 = .ok (.bipush 10, 2) := by decide +kernel
theorem d11_tellFacts_78 : decode y11_tellFacts.2.1 78 = .ok (.irem, 1) := by decide +kernel
theorem d11_tellFacts_79 : decode y11_tellFacts.2.1 79 = .ok (.invokevirtual 208, 3) := by decide +kernel
theorem d11_tellFacts_82 : decode y11_tellFacts.2.1 82 = .ok (.aload_n 0, 1) := by decide +kernel
theorem d11_tellFacts_83 : decode y11_tellFacts.2.1 83 = .ok (.aload_n 0, 1) := by decide +kernel
theorem d11_tellFacts_84 : decode y11_tellFacts.2.1 84 = .ok (.getfield 49, 3) := by decide +kernel
theorem d11_tellFacts_87 : decode y11_tellFacts.2.1 87 = .ok (.bipush 100, 2) := by decide +kernel
theorem d11_tellFacts_89 : decode y11_tellFacts.2.1 89 = .ok (.iload_n 1, 1) := by decide +kernel
theorem d11_tellFacts_90 : decode y11_tellFacts.2.1 90 = .ok (.imul, 1) := by decide +kernel
theorem d11_tellFacts_91 : decode y11_tellFacts.2.1 91 = .ok (.iload_n 2, 1) := by decide +kernel
theorem d11_tellFacts_92 : decode y11_tellFacts.2.1 92 = .ok (.iadd, 1) := by decide +kernel
theorem d11_tellFacts_93 : decode y11_tellFacts.2.1 93 = .ok (.laload, 1) := by decide +kernel
theorem d11_tellFacts_94 : decode y11_tellFacts.2.1 94 = .ok (.l2i, 1) := by decide +kernel
theorem d11_tellFacts_95 : decode y11_tellFacts.2.1 95 = .ok (.invokevirtual 208, 3) := by decide +kernel
theorem d11_tellFacts_98 : decode y11_tellFacts.2.1 98 = .ok (.iinc 2 1, 3) := by decide +kernel
theorem d11_tellFacts_101 : decode y11_tellFacts.2.1 101 = .ok (.goto (-67), 3) := by decide +kernel
theorem d11_tellFacts_104 : decode y11_tellFacts.2.1 104 = .ok (.iinc 1 1, 3) := by decide +kernel
theorem d11_tellFacts_107 : decode y11_tellFacts.2.1 107 = .ok (.goto (-105), 3) := by decide +kernel
theorem d11_tellFacts_110 : decode y11_tellFacts.2.1 110 = .ok (.return_, 1) := by decide +kernel
theorem d11_tell_0 : decode y11_tell.2.1 0 = .ok (.aload_n 0, 1) := by decide +kernel
theorem d11_tell_1 : decode y11_tell.2.1 1 = .ok (.getfield 205, 3) := by decide +kernel
theorem d11_tell_4 : decode y11_tell.2.1 4 = .ok (.sipush 20000, 3) := by decide +kernel
theorem d11_tell_7 : decode y11_tell.2.1 7 = .ok (.if_icmp .ge 13, 3) := by decide +kernel
theorem d11_tell_10 : decode y11_tell.2.1 10 = .ok (.aload_n 0, 1) := by decide +kernel
theorem d11_tell_11 : decode y11_tell.2.1 11 = .ok (.getfield 71, 3) := by decide +kernel
theorem d11_tell_14 : decode y11_tell.2.1 14 = .ok (.aload_n 0, 1) := by decide +kernel
theorem d11_tell_15 : decode y11_tell.2.1 15 = .ok (.getfield 205, 3) := by decide +kernel
theorem d11_tell_18 : decode y11_tell.2.1 18 = .ok (.iload_n 1, 1) := by decide +kernel
theorem d11_tell_19 : decode y11_tell.2.1 19 = .ok (.iastore, 1) := by decide +kernel
theorem d11_tell_20 : decode y11_tell.2.1 20 = .ok (.aload_n 0, 1) := by decide +kernel
theorem d11_tell_21 : decode y11_tell.2.1 21 = .ok (.dup, 1) := by decide +kernel
theorem d11_tell_22 : decode y11_tell.2.1 22 = .ok (.getfield 205, 3) := by decide +kernel
theorem d11_tell_25 : decode y11_tell.2.1 25 = .ok (.iconst 1, 1) := by decide +kernel
theorem d11_tell_26 : decode y11_tell.2.1 26 = .ok (.iadd, 1) := by decide +kernel
theorem d11_tell_27 : decode y11_tell.2.1 27 = .ok (.putfield 205, 3) := by decide +kernel
theorem d11_tell_30 : decode y11_tell.2.1 30 = .ok (.return_, 1) := by decide +kernel
theorem d11_tellReason_0 : decode y11_tellReason.2.1 0 = .ok (.aload_n 0, 1) := by decide +kernel
theorem d11_tellReason_1 : decode y11_tellReason.2.1 1 = .ok (.aload_n 0, 1) := by decide +kernel
theorem d11_tellReason_2 : decode y11_tellReason.2.1 2 = .ok (.getfield 170, 3) := by decide +kernel
theorem d11_tellReason_5 : decode y11_tellReason.2.1 5 = .ok (.invokevirtual 208, 3) := by decide +kernel
theorem d11_tellReason_8 : decode y11_tellReason.2.1 8 = .ok (.iconst 0, 1) := by decide +kernel
theorem d11_tellReason_9 : decode y11_tellReason.2.1 9 = .ok (.istore_n 2, 1) := by decide +kernel
theorem d11_tellReason_10 : decode y11_tellReason.2.1 10 = .ok (.iload_n 2, 1) := by decide +kernel
theorem d11_tellReason_11 : decode y11_tellReason.2.1 11 = .ok (.aload_n 0, 1) := by decide +kernel
theorem d11_tellReason_12 : decode y11_tellReason.2.1 12 = .ok (.getfield 170, 3) := by decide +kernel
theorem d11_tellReason_15 : decode y11_tellReason.2.1 15 = .ok (.if_icmp .ge 118, 3) := by decide +kernel
theorem d11_tellReason_18 : decode y11_tellReason.2.1 18 = .ok (.aload_n 0, 1) := by decide +kernel
theorem d11_tellReason_19 : decode y11_tellReason.2.1 19 = .ok (.getfield 36, 3) := by decide +kernel
theorem d11_tellReason_22 : decode y11_tellReason.2.1 22 = .ok (.aload_n 0, 1) := by decide +kernel
theorem d11_tellReason_23 : decode y11_tellReason.2.1 23 = .ok (.getfield 65, 3) := by decide +kernel
theorem d11_tellReason_26 : decode y11_tellReason.2.1 26 = .ok (.iload_n 2, 1) := by decide +kernel
theorem d11_tellReason_27 : decode y11_tellReason.2.1 27 = .ok (.iaload, 1) := by decide +kernel
theorem d11_tellReason_28 : decode y11_tellReason.2.1 28 = .ok (.iaload, 1) := by decide +kernel
theorem d11_tellReason_29 : decode y11_tellReason.2.1 29 = .ok (.istore_n 3, 1) := by decide +kernel
theorem d11_tellReason_30 : decode y11_tellReason.2.1 30 = .ok (.iload_n 1, 1) := by decide +kernel
theorem d11_tellReason_31 : decode y11_tellReason.2.1 31 = .ok (.ifCond .ge 11, 3) := by decide +kernel
theorem d11_tellReason_34 : decode y11_tellReason.2.1 34 = .ok (.aload_n 0, 1) := by decide +kernel
theorem d11_tellReason_35 : decode y11_tellReason.2.1 35 = .ok (.iload_n 3, 1) := by decide +kernel
theorem d11_tellReason_36 : decode y11_tellReason.2.1 36 = .ok (.invokevirtual 208, 3) := by decide +kernel
theorem d11_tellReason_39 : decode y11_tellReason.2.1 39 = .ok (.goto 88, 3) := by decide +kernel
theorem d11_tellReason_42 : decode y11_tellReason.2.1 42 = .ok (.aload_n 0, 1) := by decide +kernel
theorem d11_tellReason_43 : decode y11_tellReason.2.1 43 = .ok (.iload_n 1, 1) := by decide +kernel
theorem d11_tellReason_44 : decode y11_tellReason.2.1 44 = .ok (.invokevirtual 203, 3) := by decide +kernel
theorem d11_tellReason_47 : decode y11_tellReason.2.1 47 = .ok (.istore 4, 2) := by decide +kernel
theorem d11_tellReason_49 : decode y11_tellReason.2.1 49 = .ok (.iload_n 3, 1) := by decide +kernel
theorem d11_tellReason_50 : decode y11_tellReason.2.1 50 = .ok (.bipush 100, 2) := by decide +kernel
theorem d11_tellReason_52 : decode y11_tellReason.2.1 52 = .ok (.if_icmp .ge 16, 3) := by decide +kernel
theorem d11_tellReason_55 : decode y11_tellReason.2.1 55 = .ok (.aload_n 0, 1) := by decide +kernel
theorem d11_tellReason_56 : decode y11_tellReason.2.1 56 = .ok (.aload_n 0, 1) := by decide +kernel
theorem d11_tellReason_57 : decode y11_tellReason.2.1 57 = .ok (.iload_n 1, 1) := by decide +kernel
theorem d11_tellReason_58 : decode y11_tellReason.2.1 58 = .ok (.iload_n 3, 1) := by decide +kernel
theorem d11_tellReason_59 : decode y11_tellReason.2.1 59 = .ok (.invokevirtual 211, 3) := by decide +kernel
theorem d11_tellReason_62 : decode y11_tellReason.2.1 62 = .ok (.invokevirtual 208, 3) := by decide +kernel
theorem d11_tellReason_65 : decode y11_tellReason.2.1 65 = .ok (.goto 62, 3) := by decide +kernel
theorem d11_tellReason_68 : decode y11_tellReason.2.1 68 = .ok (.aload_n 0, 1) := by decide +kernel
theorem d11_tellReason_69 : decode y11_tellReason.2.1 69 = .ok (.getfield 7, 3) := by decide +kernel
theorem d11_tellReason_72 : decode y11_tellReason.2.1 72 = .ok (.iload_n 1, 1) := by decide +kernel
theorem d11_tellReason_73 : decode y11_tellReason.2.1 73 = .ok (.iaload, 1) := by decide +kernel
theorem d11_tellReason_74 : decode y11_tellReason.2.1 74 = .ok (.iconst 4, 1) := by decide +kernel
theorem d11_tellReason_75 : decode y11_tellReason.2.1 75 = .ok (.if_icmp .ne 41, 3) := by decide +kernel
theorem d11_tellReason_78 : decode y11_tellReason.2.1 78 = .ok (.aload_n 0, 1) := by decide +kernel
theorem d11_tellReason_79 : decode y11_tellReason.2.1 79 = .ok (.iload 4, 2) := by decide +kernel
theorem d11_tellReason_81 : decode y11_tellReason.2.1 81 = .ok (.iload 4, 2) := by decide +kernel
theorem d11_tellReason_83 : decode y11_tellReason.2.1 83 = .ok (.aload_n 0, 1) := by decide +kernel
theorem d11_tellReason_84 : decode y11_tellReason.2.1 84 = .ok (.iload_n 1, 1) := by decide +kernel
theorem d11_tellReason_85 : decode y11_tellReason.2.1 85 = .ok (.iload_n 3, 1) := by decide +kernel
theorem d11_tellReason_86 : decode y11_tellReason.2.1 86 = .ok (.bipush 100, 2) := by decide +kernel
theorem d11_tellReason_88 : decode y11_tellReason.2.1 88 = .ok (.isub, 1) := by decide +kernel
theorem d11_tellReason_89 : decode y11_tellReason.2.1 89 = .ok (.bipush 100, 2) := by decide +kernel
theorem d11_tellReason_91 : decode y11_tellReason.2.1 91 = .ok (.idiv, 1) := by decide +kernel
theorem d11_tellReason_92 : decode y11_tellReason.2.1 92 = .ok (.invokevirtual 211, 3) := by decide +kernel
theorem d11_tellReason_95 : decode y11_tellReason.2.1 95 = .ok (.imul, 1) := by decide +kernel
theorem d11_tellReason_96 : decode y11_tellReason.2.1 96 = .ok (.iadd, 1) := by decide +kernel
theorem d11_tellReason_97 : decode y11_tellReason.2.1 97 = .ok (.aload_n 0, 1) := by decide +kernel
theorem d11_tellReason_98 : decode y11_tellReason.2.1 98 = .ok (.iload_n 1, 1) := by decide +kernel
theorem d11_tellReason_99 : decode y11_tellReason.2.1 99 = .ok (.iload_n 3, 1) := by decide +kernel
theorem d11_tellReason_100 : decode y11_tellReason.2.1 100 = .ok (.bipush 100, 2) := by decide +kernel
theorem d11_tellReason_102 : decode y11_tellReason.2.1 102 = .ok (.isub, 1) := by decide +kernel
theorem d11_tellReason_103 : decode y11_tellReason.2.1 103 = .ok (.bipush 100, 2) := by decide +kernel
theorem d11_tellReason_105 : decode y11_tellReason.2.1 105 = .ok (.irem, 1) := by decide +kernel
theorem d11_tellReason_106 : decode y11_tellReason.2.1 106 = .ok (.invokevirtual 211, 3) := by decide +kernel
theorem d11_tellReason_109 : decode y11_tellReason.2.1 109 = .ok (.iadd, 1) := by decide +kernel
theorem d11_tellReason_110 : decode y11_tellReason.2.1 110 = .ok (.invokevirtual 208, 3) := by decide +kernel
theorem d11_tellReason_113 : decode y11_tellReason.2.1 113 = .ok (.goto 14, 3) := by decide +kernel
theorem d11_tellReason_116 : decode y11_tellReason.2.1 116 = .ok (.aload_n 0, 1) := by decide +kernel
theorem d11_tellReason_117 : decode y11_tellReason.2.1 117 = .ok (.iload 4, 2) := by decide +kernel
theorem d11_tellReason_119 : decode y11_tellReason.2.1 119 = .ok (.iload_n 3, 1) := by decide +kernel
theorem d11_tellReason_120 : decode y11_tellReason.2.1 120 = .ok (.iadd, 1) := by decide +kernel
theorem d11_tellReason_121 : decode y11_tellReason.2.1 121 = .ok (.bipush 100, 2) := by decide +kernel
theorem d11_tellReason_123 : decode y11_tellReason.2.1 123 = .ok (.isub, 1) := by decide +kernel
theorem d11_tellReason_124 : decode y11_tellReason.2.1 124 = .ok (.invokevirtual 208, 3) := by decide +kernel
theorem d11_tellReason_127 : decode y11_tellReason.2.1 127 = .ok (.iinc 2 1, 3) := by decide +kernel
theorem d11_tellReason_130 : decode y11_tellReason.2.1 130 = .ok (.goto (-120), 3) := by decide +kernel
theorem d11_tellReason_133 : decode y11_tellReason.2.1 133 = .ok (.return_, 1) := by decide +kernel
theorem d11_factNumber_0 : decode y11_factNumber.2.1 0 = .ok (.iconst 0, 1) := by decide +kernel
theorem d11_factNumber_1 : decode y11_factNumber.2.1 1 = .ok (.istore_n 3, 1) := by decide +kernel
theorem d11_factNumber_2 : decode y11_factNumber.2.1 2 = .ok (.iconst 0, 1) := by decide +kernel
theorem d11_factNumber_3 : decode y11_factNumber.2.1 3 = .ok (.istore 4, 2) := by decide +kernel
theorem d11_factNumber_5 : decode y11_factNumber.2.1 5 = .ok (.iload 4, 2) := by decide +kernel
theorem d11_factNumber_7 : decode y11_factNumber.2.1 7 = .ok (.iload_n 2, 1) := by decide +kernel
theorem d11_factNumber_8 : decode y11_factNumber.2.1 8 = .ok (.if_icmp .ge 32, 3) := by decide +kernel
theorem d11_factNumber_11 : decode y11_factNumber.2.1 11 = .ok (.iload_n 3, 1) := by decide +kernel
theorem d11_factNumber_12 : decode y11_factNumber.2.1 12 = .ok (.aload_n 0, 1) := by decide +kernel
theorem d11_factNumber_13 : decode y11_factNumber.2.1 13 = .ok (.getfield 68, 3) := by decide +kernel
theorem d11_factNumber_16 : decode y11_factNumber.2.1 16 = .ok (.bipush 100, 2) := by decide +kernel
theorem d11_factNumber_18 : decode y11_factNumber.2.1 18 = .ok (.iload_n 1, 1) := by decide +kernel
theorem d11_factNumber_19 : decode y11_factNumber.2.1 19 = .ok (.imul, 1) := by decide +kernel
theorem d11_factNumber_20 : decode y11_factNumber.2.1 20 = .ok (.iload 4, 2) := by decide +kernel
theorem d11_factNumber_22 : decode y11_factNumber.2.1 22 = .ok (.iadd, 1) := by decide +kernel
theorem d11_factNumber_23 : decode y11_factNumber.2.1 23 = .ok (.baload, 1) := by decide +kernel
theorem d11_factNumber_24 : decode y11_factNumber.2.1 24 = .ok (.ifCond .eq 7, 3) := by decide +kernel
theorem d11_factNumber_27 : decode y11_factNumber.2.1 27 = .ok (.iconst 1, 1) := by decide +kernel
theorem d11_factNumber_28 : decode y11_factNumber.2.1 28 = .ok (.goto 4, 3) := by decide +kernel
theorem d11_factNumber_31 : decode y11_factNumber.2.1 31 = .ok (.iconst 0, 1) := by decide +kernel
theorem d11_factNumber_32 : decode y11_factNumber.2.1 32 = .ok (.iadd, 1) := by decide +kernel
theorem d11_factNumber_33 : decode y11_factNumber.2.1 33 = .ok (.istore_n 3, 1) := by decide +kernel
theorem d11_factNumber_34 : decode y11_factNumber.2.1 34 = .ok (.iinc 4 1, 3) := by decide +kernel
theorem d11_factNumber_37 : decode y11_factNumber.2.1 37 = .ok (.goto (-32), 3) := by decide +kernel
theorem d11_factNumber_40 : decode y11_factNumber.2.1 40 = .ok (.iload_n 3, 1) := by decide +kernel
theorem d11_factNumber_41 : decode y11_factNumber.2.1 41 = .ok (.ireturn, 1) := by decide +kernel
theorem d11_tellInstruction_0 : decode y11_tellInstruction.2.1 0 = .ok (.iconst 0, 1) := by decide +kernel
theorem d11_tellInstruction_1 : decode y11_tellInstruction.2.1 1 = .ok (.istore_n 2, 1) := by decide +kernel
theorem d11_tellInstruction_2 : decode y11_tellInstruction.2.1 2 = .ok (.iload_n 2, 1) := by decide +kernel
theorem d11_tellInstruction_3 : decode y11_tellInstruction.2.1 3 = .ok (.iconst 2, 1) := by decide +kernel
theorem d11_tellInstruction_4 : decode y11_tellInstruction.2.1 4 = .ok (.if_icmp .ge 29, 3) := by decide +kernel
theorem d11_tellInstruction_7 : decode y11_tellInstruction.2.1 7 = .ok (.aload_n 0, 1) := by decide +kernel
theorem d11_tellInstruction_8 : decode y11_tellInstruction.2.1 8 = .ok (.iload_n 1, 1) := by decide +kernel
theorem d11_tellInstruction_9 : decode y11_tellInstruction.2.1 9 = .ok (.invokevirtual 190, 3) := by decide +kernel
theorem d11_tellInstruction_12 : decode y11_tellInstruction.2.1 12 = .ok (.ifCond .eq 21, 3) := by decide +kernel
theorem d11_tellInstruction_15 : decode y11_tellInstruction.2.1 15 = .ok (.aload_n 0, 1) := by decide +kernel
theorem d11_tellInstruction_16 : decode y11_tellInstruction.2.1 16 = .ok (.iload_n 1, 1) := by decide +kernel
theorem d11_tellInstruction_17 : decode y11_tellInstruction.2.1 17 = .ok (.iload_n 2, 1) := by decide +kernel
theorem d11_tellInstruction_18 : decode y11_tellInstruction.2.1 18 = .ok (.invokevirtual 193, 3) := by decide +kernel
theorem d11_tellInstruction_21 : decode y11_tellInstruction.2.1 21 = .ok (.pop, 1) := by decide +kernel
theorem d11_tellInstruction_22 : decode y11_tellInstruction.2.1 22 = .ok (.aload_n 0, 1) := by decide +kernel
theorem d11_tellInstruction_23 : decode y11_tellInstruction.2.1 23 = .ok (.iload_n 1, 1) := by decide +kernel
theorem d11_tellInstruction_24 : decode y11_tellInstruction.2.1 24 = .ok (.invokevirtual 214, 3) := by decide +kernel
theorem d11_tellInstruction_27 : decode y11_tellInstruction.2.1 27 = .ok (.iinc 2 1, 3) := by decide +kernel
theorem d11_tellInstruction_30 : decode y11_tellInstruction.2.1 30 = .ok (.goto (-28), 3) := by decide +kernel
theorem d11_tellInstruction_33 : decode y11_tellInstruction.2.1 33 = .ok (.iconst 0, 1) := by decide +kernel
theorem d11_tellInstruction_34 : decode y11_tellInstruction.2.1 34 = .ok (.istore_n 2, 1) := by decide +kernel
theorem d11_tellInstruction_35 : decode y11_tellInstruction.2.1 35 = .ok (.iload_n 2, 1) := by decide +kernel
theorem d11_tellInstruction_36 : decode y11_tellInstruction.2.1 36 = .ok (.iconst 2, 1) := by decide +kernel
theorem d11_tellInstruction_37 : decode y11_tellInstruction.2.1 37 = .ok (.if_icmp .ge 146, 3) := by decide +kernel
theorem d11_tellInstruction_40 : decode y11_tellInstruction.2.1 40 = .ok (.aload_n 0, 1) := by decide +kernel
theorem d11_tellInstruction_41 : decode y11_tellInstruction.2.1 41 = .ok (.iload_n 1, 1) := by decide +kernel
theorem d11_tellInstruction_42 : decode y11_tellInstruction.2.1 42 = .ok (.iload_n 2, 1) := by decide +kernel
theorem d11_tellInstruction_43 : decode y11_tellInstruction.2.1 43 = .ok (.invokevirtual 159, 3) := by decide +kernel
theorem d11_tellInstruction_46 : decode y11_tellInstruction.2.1 46 = .ok (.istore_n 3, 1) := by decide +kernel
theorem d11_tellInstruction_47 : decode y11_tellInstruction.2.1 47 = .ok (.iload_n 3, 1) := by decide +kernel
theorem d11_tellInstruction_48 : decode y11_tellInstruction.2.1 48 = .ok (.ifCond .ge 6, 3) := by decide +kernel
theorem d11_tellInstruction_51 : decode y11_tellInstruction.2.1 51 = .ok (.goto 126, 3) := by decide +kernel
theorem d11_tellInstruction_54 : decode y11_tellInstruction.2.1 54 = .ok (.aload_n 0, 1) := by decide +kernel
theorem d11_tellInstruction_55 : decode y11_tellInstruction.2.1 55 = .ok (.iload_n 1, 1) := by decide +kernel
theorem d11_tellInstruction_56 : decode y11_tellInstruction.2.1 56 = .ok (.iload_n 2, 1) := by decide +kernel
theorem d11_tellInstruction_57 : decode y11_tellInstruction.2.1 57 = .ok (.invokevirtual 163, 3) := by decide +kernel
theorem d11_tellInstruction_60 : decode y11_tellInstruction.2.1 60 = .ok (.aload_n 0, 1) := by decide +kernel
theorem d11_tellInstruction_61 : decode y11_tellInstruction.2.1 61 = .ok (.aload_n 0, 1) := by decide +kernel
theorem d11_tellInstruction_62 : decode y11_tellInstruction.2.1 62 = .ok (.getfield 56, 3) := by decide +kernel
theorem d11_tellInstruction_65 : decode y11_tellInstruction.2.1 65 = .ok (.iconst 2, 1) := by decide +kernel
theorem d11_tellInstruction_66 : decode y11_tellInstruction.2.1 66 = .ok (.iload_n 1, 1) := by decide +kernel
theorem d11_tellInstruction_67 : decode y11_tellInstruction.2.1 67 = .ok (.imul, 1) := by decide +kernel
theorem d11_tellInstruction_68 : decode y11_tellInstruction.2.1 68 = .ok (.iload_n 2, 1) := by decide +kernel
theorem d11_tellInstruction_69 : decode y11_tellInstruction.2.1 69 = .ok (.iadd, 1) := by decide +kernel
theorem d11_tellInstruction_70 : decode y11_tellInstruction.2.1 70 = .ok (.baload, 1) := by decide +kernel
theorem d11_tellInstruction_71 : decode y11_tellInstruction.2.1 71 = .ok (.ifCond .eq 7, 3) := by decide +kernel
theorem d11_tellInstruction_74 : decode y11_tellInstruction.2.1 74 = .ok (.iconst 1, 1) := by decide +kernel
theorem d11_tellInstruction_75 : decode y11_tellInstruction.2.1 75 = .ok (.goto 4, 3) := by decide +kernel
theorem d11_tellInstruction_78 : decode y11_tellInstruction.2.1 78 = .ok (.iconst 0, 1) := by decide +kernel
theorem d11_tellInstruction_79 : decode y11_tellInstruction.2.1 79 = .ok (.invokevirtual 208, 3) := by decide +kernel
theorem d11_tellInstruction_82 : decode y11_tellInstruction.2.1 82 = .ok (.aload_n 0, 1) := by decide +kernel
theorem d11_tellInstruction_83 : decode y11_tellInstruction.2.1 83 = .ok (.getfield 56, 3) := by decide +kernel
theorem d11_tellInstruction_86 : decode y11_tellInstruction.2.1 86 = .ok (.iconst 2, 1) := by decide +kernel
theorem d11_tellInstruction_87 : decode y11_tellInstruction.2.1 87 = .ok (.iload_n 1, 1) := by decide +kernel
theorem d11_tellInstruction_88 : decode y11_tellInstruction.2.1 88 = .ok (.imul, 1) := by decide +kernel
theorem d11_tellInstruction_89 : decode y11_tellInstruction.2.1 89 = .ok (.iload_n 2, 1) := by decide +kernel
theorem d11_tellInstruction_90 : decode y11_tellInstruction.2.1 90 = .ok (.iadd, 1) := by decide +kernel
theorem d11_tellInstruction_91 : decode y11_tellInstruction.2.1 91 = .ok (.baload, 1) := by decide +kernel
theorem d11_tellInstruction_92 : decode y11_tellInstruction.2.1 92 = .ok (.ifCond .eq 19, 3) := by decide +kernel
theorem d11_tellInstruction_95 : decode y11_tellInstruction.2.1 95 = .ok (.aload_n 0, 1) := by decide +kernel
theorem d11_tellInstruction_96 : decode y11_tellInstruction.2.1 96 = .ok (.aload_n 0, 1) := by decide +kernel
theorem d11_tellInstruction_97 : decode y11_tellInstruction.2.1 97 = .ok (.invokevirtual 199, 3) := by decide +kernel
theorem d11_tellInstruction_100 : decode y11_tellInstruction.2.1 100 = .ok (.invokevirtual 208, 3) := by decide +kernel
theorem d11_tellInstruction_103 : decode y11_tellInstruction.2.1 103 = .ok (.aload_n 0, 1) := by decide +kernel
theorem d11_tellInstruction_104 : decode y11_tellInstruction.2.1 104 = .ok (.iload_n 1, 1) := by decide +kernel
theorem d11_tellInstruction_105 : decode y11_tellInstruction.2.1 105 = .ok (.invokevirtual 214, 3) := by decide +kernel
theorem d11_tellInstruction_108 : decode y11_tellInstruction.2.1 108 = .ok (.goto 69, 3) := by decide +kernel
theorem d11_tellInstruction_111 : decode y11_tellInstruction.2.1 111 = .ok (.iconst 0, 1) := by decide +kernel
theorem d11_tellInstruction_112 : decode y11_tellInstruction.2.1 112 = .ok (.istore 4, 2) := by decide +kernel
theorem d11_tellInstruction_114 : decode y11_tellInstruction.2.1 114 = .ok (.iload 4, 2) := by decide +kernel
theorem d11_tellInstruction_116 : decode y11_tellInstruction.2.1 116 = .ok (.bipush 100, 2) := by decide +kernel
theorem d11_tellInstruction_118 : decode y11_tellInstruction.2.1 118 = .ok (.if_icmp .ge 59, 3) := by decide +kernel
theorem d11_tellInstruction_121 : decode y11_tellInstruction.2.1 121 = .ok (.aload_n 0, 1) := by decide +kernel
theorem d11_tellInstruction_122 : decode y11_tellInstruction.2.1 122 = .ok (.getfield 68, 3) := by decide +kernel
theorem d11_tellInstruction_125 : decode y11_tellInstruction.2.1 125 = .ok (.bipush 100, 2) := by decide +kernel
theorem d11_tellInstruction_127 : decode y11_tellInstruction.2.1 127 = .ok (.iload_n 3, 1) := by decide +kernel
theorem d11_tellInstruction_128 : decode y11_tellInstruction.2.1 128 = .ok (.imul, 1) := by decide +kernel
theorem d11_tellInstruction_129 : decode y11_tellInstruction.2.1 129 = .ok (.iload 4, 2) := by decide +kernel
theorem d11_tellInstruction_131 : decode y11_tellInstruction.2.1 131 = .ok (.iadd, 1) := by decide +kernel
theorem d11_tellInstruction_132 : decode y11_tellInstruction.2.1 132 = .ok (.baload, 1) := by decide +kernel
theorem d11_tellInstruction_133 : decode y11_tellInstruction.2.1 133 = .ok (.ifCond .ne 6, 3) := by decide +kernel
theorem d11_tellInstruction_136 : decode y11_tellInstruction.2.1 136 = .ok (.goto 35, 3) := by decide +kernel
theorem d11_tellInstruction_139 : decode y11_tellInstruction.2.1 139 = .ok (.aload_n 0, 1) := by decide +kernel
theorem d11_tellInstruction_140 : decode y11_tellInstruction.2.1 140 = .ok (.iload 4, 2) := by decide +kernel
theorem d11_tellInstruction_142 : decode y11_tellInstruction.2.1 142 = .ok (.bipush 10, 2) := by decide +kernel
theorem d11_tellInstruction_144 : decode y11_tellInstruction.2.1 144 = .ok (.idiv, 1) := by decide +kernel
theorem d11_tellInstruction_145 : decode y11_tellInstruction.2.1 145 = .ok (.iload 4, 2) := by decide +kernel
theorem d11_tellInstruction_147 : decode y11_tellInstruction.2.1 147 = .ok (.bipush 10, 2) := by decide +kernel
theorem d11_tellInstruction_149 : decode y11_tellInstruction.2.1 149 = .ok (.irem, 1) := by decide +kernel
theorem d11_tellInstruction_150 : decode y11_tellInstruction.2.1 150 = .ok (.aload_n 0, 1) := by decide +kernel
theorem d11_tellInstruction_151 : decode y11_tellInstruction.2.1 151 = .ok (.getfield 49, 3) := by decide +kernel
theorem d11_tellInstruction_154 : decode y11_tellInstruction.2.1 154 = .ok (.bipush 100, 2) := by decide +kernel
theorem d11_tellInstruction_156 : decode y11_tellInstruction.2.1 156 = .ok (.iload_n 3, 1) := by decide +kernel
theorem d11_tellInstruction_157 : decode y11_tellInstruction.2.1 157 = .ok (.imul, 1) := by decide +kernel
theorem d11_tellInstruction_158 : decode y11_tellInstruction.2.1 158 = .ok (.iload 4, 2) := by decide +kernel
theorem d11_tellInstruction_160 : decode y11_tellInstruction.2.1 160 = .ok (.iadd, 1) := by decide +kernel
theorem d11_tellInstruction_161 : decode y11_tellInstruction.2.1 161 = .ok (.laload, 1) := by decide +kernel
theorem d11_tellInstruction_162 : decode y11_tellInstruction.2.1 162 = .ok (.invokevirtual 173, 3) := by decide +kernel
theorem d11_tellInstruction_165 : decode y11_tellInstruction.2.1 165 = .ok (.pop, 1) := by decide +kernel
theorem d11_tellInstruction_166 : decode y11_tellInstruction.2.1 166 = .ok (.aload_n 0, 1) := by decide +kernel
theorem d11_tellInstruction_167 : decode y11_tellInstruction.2.1 167 = .ok (.iload_n 1, 1) := by decide +kernel
theorem d11_tellInstruction_168 : decode y11_tellInstruction.2.1 168 = .ok (.invokevirtual 214, 3) := by decide +kernel
theorem d11_tellInstruction_171 : decode y11_tellInstruction.2.1 171 = .ok (.iinc 4 1, 3) := by decide +kernel
theorem d11_tellInstruction_174 : decode y11_tellInstruction.2.1 174 = .ok (.goto (-60), 3) := by decide +kernel
theorem d11_tellInstruction_177 : decode y11_tellInstruction.2.1 177 = .ok (.iinc 2 1, 3) := by decide +kernel
theorem d11_tellInstruction_180 : decode y11_tellInstruction.2.1 180 = .ok (.goto (-145), 3) := by decide +kernel
theorem d11_tellInstruction_183 : decode y11_tellInstruction.2.1 183 = .ok (.return_, 1) := by decide +kernel
