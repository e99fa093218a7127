theorem d7_becomeBeginning_0 : decode y7_becomeBeginning.2.1 0 = .ok (.iload_n 1, 1) := by decide +kernel
theorem d7_becomeBeginning_1 : decode y7_becomeBeginning.2.1 1 = .ok (.ifCond .lt 9, 3) := by decide +kernel
theorem d7_becomeBeginning_4 : decode y7_becomeBeginning.2.1 4 = .ok (.iload_n 1, 1) := by decide +kernel
theorem d7_becomeBeginning_5 : decode y7_becomeBeginning.2.1 5 = .ok (.bipush 18, 2) := by decide +kernel
theorem d7_becomeBeginning_7 : decode y7_becomeBeginning.2.1 7 = .ok (.if_icmp .lt 5, 3) := by decide +kernel
theorem d7_becomeBeginning_10 : decode y7_becomeBeginning.2.1 10 = .ok (.iconst 0, 1) := by decide +kernel
theorem d7_becomeBeginning_11 : decode y7_becomeBeginning.2.1 11 = .ok (.ireturn, 1) := by decide +kernel
theorem d7_becomeBeginning_12 : decode y7_becomeBeginning.2.1 12 = .ok (.iload_n 1, 1) := by decide +kernel
theorem d7_becomeBeginning_13 : decode y7_becomeBeginning.2.1 13 = .ok (.iconst 2, 1) := by decide +kernel
theorem d7_becomeBeginning_14 : decode y7_becomeBeginning.2.1 14 = .ok (.if_icmp .ge 14, 3) := by decide +kernel
theorem d7_becomeBeginning_17 : decode y7_becomeBeginning.2.1 17 = .ok (.aload_n 0, 1) := by decide +kernel
theorem d7_becomeBeginning_18 : decode y7_becomeBeginning.2.1 18 = .ok (.iload_n 1, 1) := by decide +kernel
theorem d7_becomeBeginning_19 : decode y7_becomeBeginning.2.1 19 = .ok (.iconst 2, 1) := by decide +kernel
theorem d7_becomeBeginning_20 : decode y7_becomeBeginning.2.1 20 = .ok (.bipush 9, 2) := by decide +kernel
theorem d7_becomeBeginning_22 : decode y7_becomeBeginning.2.1 22 = .ok (.lconst 0, 1) := by decide +kernel
theorem d7_becomeBeginning_23 : decode y7_becomeBeginning.2.1 23 = .ok (.lconst 0, 1) := by decide +kernel
theorem d7_becomeBeginning_24 : decode y7_becomeBeginning.2.1 24 = .ok (.invokevirtual 22, 3) := by decide +kernel
theorem d7_becomeBeginning_27 : decode y7_becomeBeginning.2.1 27 = .ok (.ireturn, 1) := by decide +kernel
theorem d7_becomeBeginning_28 : decode y7_becomeBeginning.2.1 28 = .ok (.iload_n 1, 1) := by decide +kernel
theorem d7_becomeBeginning_29 : decode y7_becomeBeginning.2.1 29 = .ok (.bipush 16, 2) := by decide +kernel
theorem d7_becomeBeginning_31 : decode y7_becomeBeginning.2.1 31 = .ok (.if_icmp .ge 37, 3) := by decide +kernel
theorem d7_becomeBeginning_34 : decode y7_becomeBeginning.2.1 34 = .ok (.iload_n 1, 1) := by decide +kernel
theorem d7_becomeBeginning_35 : decode y7_becomeBeginning.2.1 35 = .ok (.iconst 2, 1) := by decide +kernel
theorem d7_becomeBeginning_36 : decode y7_becomeBeginning.2.1 36 = .ok (.isub, 1) := by decide +kernel
theorem d7_becomeBeginning_37 : decode y7_becomeBeginning.2.1 37 = .ok (.iconst 2, 1) := by decide +kernel
theorem d7_becomeBeginning_38 : decode y7_becomeBeginning.2.1 38 = .ok (.idiv, 1) := by decide +kernel
theorem d7_becomeBeginning_39 : decode y7_becomeBeginning.2.1 39 = .ok (.istore_n 3, 1) := by decide +kernel
theorem d7_becomeBeginning_40 : decode y7_becomeBeginning.2.1 40 = .ok (.iload_n 3, 1) := by decide +kernel
theorem d7_becomeBeginning_41 : decode y7_becomeBeginning.2.1 41 = .ok (.ifCond .ne 7, 3) := by decide +kernel
theorem d7_becomeBeginning_44 : decode y7_becomeBeginning.2.1 44 = .ok (.iconst 0, 1) := by decide +kernel
theorem d7_becomeBeginning_45 : decode y7_becomeBeginning.2.1 45 = .ok (.goto 6, 3) := by decide +kernel
theorem d7_becomeBeginning_48 : decode y7_becomeBeginning.2.1 48 = .ok (.iload_n 3, 1) := by decide +kernel
theorem d7_becomeBeginning_49 : decode y7_becomeBeginning.2.1 49 = .ok (.iconst 1, 1) := by decide +kernel
theorem d7_becomeBeginning_50 : decode y7_becomeBeginning.2.1 50 = .ok (.iadd, 1) := by decide +kernel
theorem d7_becomeBeginning_51 : decode y7_becomeBeginning.2.1 51 = .ok (.istore 4, 2) := by decide +kernel
theorem d7_becomeBeginning_53 : decode y7_becomeBeginning.2.1 53 = .ok (.aload_n 0, 1) := by decide +kernel
theorem d7_becomeBeginning_54 : decode y7_becomeBeginning.2.1 54 = .ok (.iload_n 1, 1) := by decide +kernel
theorem d7_becomeBeginning_55 : decode y7_becomeBeginning.2.1 55 = .ok (.iconst 2, 1) := by decide +kernel
theorem d7_becomeBeginning_56 : decode y7_becomeBeginning.2.1 56 = .ok (.irem, 1) := by decide +kernel
theorem d7_becomeBeginning_57 : decode y7_becomeBeginning.2.1 57 = .ok (.iconst 1, 1) := by decide +kernel
theorem d7_becomeBeginning_58 : decode y7_becomeBeginning.2.1 58 = .ok (.iload 4, 2) := by decide +kernel
theorem d7_becomeBeginning_60 : decode y7_becomeBeginning.2.1 60 = .ok (.iadd, 1) := by decide +kernel
theorem d7_becomeBeginning_61 : decode y7_becomeBeginning.2.1 61 = .ok (.iconst 0, 1) := by decide +kernel
theorem d7_becomeBeginning_62 : decode y7_becomeBeginning.2.1 62 = .ok (.lconst 0, 1) := by decide +kernel
theorem d7_becomeBeginning_63 : decode y7_becomeBeginning.2.1 63 = .ok (.lconst 0, 1) := by decide +kernel
theorem d7_becomeBeginning_64 : decode y7_becomeBeginning.2.1 64 = .ok (.invokevirtual 22, 3) := by decide +kernel
theorem d7_becomeBeginning_67 : decode y7_becomeBeginning.2.1 67 = .ok (.ireturn, 1) := by decide +kernel
theorem d7_becomeBeginning_68 : decode y7_becomeBeginning.2.1 68 = .ok (.iload_n 1, 1) := by decide +kernel
theorem d7_becomeBeginning_69 : decode y7_becomeBeginning.2.1 69 = .ok (.bipush 16, 2) := by decide +kernel
theorem d7_becomeBeginning_71 : decode y7_becomeBeginning.2.1 71 = .ok (.if_icmp .ne 16, 3) := by decide +kernel
theorem d7_becomeBeginning_74 : decode y7_becomeBeginning.2.1 74 = .ok (.aload_n 0, 1) := by decide +kernel
theorem d7_becomeBeginning_75 : decode y7_becomeBeginning.2.1 75 = .ok (.iconst 0, 1) := by decide +kernel
theorem d7_becomeBeginning_76 : decode y7_becomeBeginning.2.1 76 = .ok (.bipush 9, 2) := by decide +kernel
theorem d7_becomeBeginning_78 : decode y7_becomeBeginning.2.1 78 = .ok (.iload_n 2, 1) := by decide +kernel
theorem d7_becomeBeginning_79 : decode y7_becomeBeginning.2.1 79 = .ok (.i2l, 1) := by decide +kernel
theorem d7_becomeBeginning_80 : decode y7_becomeBeginning.2.1 80 = .ok (.lneg, 1) := by decide +kernel
theorem d7_becomeBeginning_81 : decode y7_becomeBeginning.2.1 81 = .ok (.invokevirtual 26, 3) := by decide +kernel
theorem d7_becomeBeginning_84 : decode y7_becomeBeginning.2.1 84 = .ok (.goto 13, 3) := by decide +kernel
theorem d7_becomeBeginning_87 : decode y7_becomeBeginning.2.1 87 = .ok (.aload_n 0, 1) := by decide +kernel
theorem d7_becomeBeginning_88 : decode y7_becomeBeginning.2.1 88 = .ok (.bipush 9, 2) := by decide +kernel
theorem d7_becomeBeginning_90 : decode y7_becomeBeginning.2.1 90 = .ok (.iconst 0, 1) := by decide +kernel
theorem d7_becomeBeginning_91 : decode y7_becomeBeginning.2.1 91 = .ok (.ldc2_w 30, 3) := by decide +kernel
theorem d7_becomeBeginning_94 : decode y7_becomeBeginning.2.1 94 = .ok (.invokevirtual 26, 3) := by decide +kernel
theorem d7_becomeBeginning_97 : decode y7_becomeBeginning.2.1 97 = .ok (.ireturn, 1) := by decide +kernel
theorem d7_becomePair_0 : decode y7_becomePair.2.1 0 = .ok (.iload_n 1, 1) := by decide +kernel
theorem d7_becomePair_1 : decode y7_becomePair.2.1 1 = .ok (.ifCond .ne 7, 3) := by decide +kernel
theorem d7_becomePair_4 : decode y7_becomePair.2.1 4 = .ok (.iconst 1, 1) := by decide +kernel
theorem d7_becomePair_5 : decode y7_becomePair.2.1 5 = .ok (.goto 4, 3) := by decide +kernel
theorem d7_becomePair_8 : decode y7_becomePair.2.1 8 = .ok (.iconst 0, 1) := by decide +kernel
theorem d7_becomePair_9 : decode y7_becomePair.2.1 9 = .ok (.istore 8, 2) := by decide +kernel
theorem d7_becomePair_11 : decode y7_becomePair.2.1 11 = .ok (.aload_n 0, 1) := by decide +kernel
theorem d7_becomePair_12 : decode y7_becomePair.2.1 12 = .ok (.iload 8, 2) := by decide +kernel
theorem d7_becomePair_14 : decode y7_becomePair.2.1 14 = .ok (.ifCond .eq 7, 3) := by decide +kernel
theorem d7_becomePair_17 : decode y7_becomePair.2.1 17 = .ok (.iload_n 2, 1) := by decide +kernel
theorem d7_becomePair_18 : decode y7_becomePair.2.1 18 = .ok (.goto 4, 3) := by decide +kernel
theorem d7_becomePair_21 : decode y7_becomePair.2.1 21 = .ok (.iload_n 3, 1) := by decide +kernel
theorem d7_becomePair_22 : decode y7_becomePair.2.1 22 = .ok (.putfield 9, 3) := by decide +kernel
theorem d7_becomePair_25 : decode y7_becomePair.2.1 25 = .ok (.aload_n 0, 1) := by decide +kernel
theorem d7_becomePair_26 : decode y7_becomePair.2.1 26 = .ok (.iload 8, 2) := by decide +kernel
theorem d7_becomePair_28 : decode y7_becomePair.2.1 28 = .ok (.ifCond .eq 7, 3) := by decide +kernel
theorem d7_becomePair_31 : decode y7_becomePair.2.1 31 = .ok (.iload_n 3, 1) := by decide +kernel
theorem d7_becomePair_32 : decode y7_becomePair.2.1 32 = .ok (.goto 4, 3) := by decide +kernel
theorem d7_becomePair_35 : decode y7_becomePair.2.1 35 = .ok (.iload_n 2, 1) := by decide +kernel
theorem d7_becomePair_36 : decode y7_becomePair.2.1 36 = .ok (.putfield 15, 3) := by decide +kernel
theorem d7_becomePair_39 : decode y7_becomePair.2.1 39 = .ok (.aload_n 0, 1) := by decide +kernel
theorem d7_becomePair_40 : decode y7_becomePair.2.1 40 = .ok (.iload 8, 2) := by decide +kernel
theorem d7_becomePair_42 : decode y7_becomePair.2.1 42 = .ok (.ifCond .eq 8, 3) := by decide +kernel
theorem d7_becomePair_45 : decode y7_becomePair.2.1 45 = .ok (.lload 4, 2) := by decide +kernel
theorem d7_becomePair_47 : decode y7_becomePair.2.1 47 = .ok (.goto 5, 3) := by decide +kernel
theorem d7_becomePair_50 : decode y7_becomePair.2.1 50 = .ok (.lload 6, 2) := by decide +kernel
theorem d7_becomePair_52 : decode y7_becomePair.2.1 52 = .ok (.putfield 18, 3) := by decide +kernel
theorem d7_becomePair_55 : decode y7_becomePair.2.1 55 = .ok (.iload 8, 2) := by decide +kernel
theorem d7_becomePair_57 : decode y7_becomePair.2.1 57 = .ok (.ifCond .ne 8, 3) := by decide +kernel
theorem d7_becomePair_60 : decode y7_becomePair.2.1 60 = .ok (.iload_n 1, 1) := by decide +kernel
theorem d7_becomePair_61 : decode y7_becomePair.2.1 61 = .ok (.iconst 1, 1) := by decide +kernel
theorem d7_becomePair_62 : decode y7_becomePair.2.1 62 = .ok (.if_icmp .ne 7, 3) := by decide +kernel
theorem d7_becomePair_65 : decode y7_becomePair.2.1 65 = .ok (.iconst 1, 1) := by decide +kernel
theorem d7_becomePair_66 : decode y7_becomePair.2.1 66 = .ok (.goto 4, 3) := by decide +kernel
theorem d7_becomePair_69 : decode y7_becomePair.2.1 69 = .ok (.iconst 0, 1) := by decide +kernel
theorem d7_becomePair_70 : decode y7_becomePair.2.1 70 = .ok (.ireturn, 1) := by decide +kernel
theorem d7_become_0 : decode y7_become.2.1 0 = .ok (.aload_n 0, 1) := by decide +kernel
theorem d7_become_1 : decode y7_become.2.1 1 = .ok (.iload_n 1, 1) := by decide +kernel
theorem d7_become_2 : decode y7_become.2.1 2 = .ok (.putfield 9, 3) := by decide +kernel
theorem d7_become_5 : decode y7_become.2.1 5 = .ok (.aload_n 0, 1) := by decide +kernel
theorem d7_become_6 : decode y7_become.2.1 6 = .ok (.iload_n 2, 1) := by decide +kernel
theorem d7_become_7 : decode y7_become.2.1 7 = .ok (.putfield 15, 3) := by decide +kernel
theorem d7_become_10 : decode y7_become.2.1 10 = .ok (.aload_n 0, 1) := by decide +kernel
theorem d7_become_11 : decode y7_become.2.1 11 = .ok (.lload_n 3, 1) := by decide +kernel
theorem d7_become_12 : decode y7_become.2.1 12 = .ok (.putfield 18, 3) := by decide +kernel
theorem d7_become_15 : decode y7_become.2.1 15 = .ok (.iconst 1, 1) := by decide +kernel
theorem d7_become_16 : decode y7_become.2.1 16 = .ok (.ireturn, 1) := by decide +kernel
theorem d6_append_0 : decode y6_append.2.1 0 = .ok (.aload_n 0, 1) := by decide +kernel
theorem d6_append_1 : decode y6_append.2.1 1 = .ok (.getfield 33, 3) := by decide +kernel
theorem d6_append_4 : decode y6_append.2.1 4 = .ok (.getfield 55, 3) := by decide +kernel
theorem d6_append_7 : decode y6_append.2.1 7 = .ok (.aload_n 0, 1) := by decide +kernel
theorem d6_append_8 : decode y6_append.2.1 8 = .ok (.getfield 33, 3) := by decide +kernel
theorem d6_append_11 : decode y6_append.2.1 11 = .ok (.getfield 55, 3) := by decide +kernel
theorem d6_append_14 : decode y6_append.2.1 14 = .ok (.l2i, 1) := by decide +kernel
theorem d6_append_15 : decode y6_append.2.1 15 = .ok (.i2l, 1) := by decide +kernel
theorem d6_append_16 : decode y6_append.2.1 16 = .ok (.lcmp, 1) := by decide +kernel
theorem d6_append_17 : decode y6_append.2.1 17 = .ok (.ifCond .ne 13, 3) := by decide +kernel
theorem d6_append_20 : decode y6_append.2.1 20 = .ok (.aload_n 0, 1) := by decide +kernel
theorem d6_append_21 : decode y6_append.2.1 21 = .ok (.getfield 43, 3) := by decide +kernel
theorem d6_append_24 : decode y6_append.2.1 24 = .ok (.sipush 200, 3) := by decide +kernel
theorem d6_append_27 : decode y6_append.2.1 27 = .ok (.if_icmp .lt 4, 3) := by decide +kernel
theorem d6_append_30 : decode y6_append.2.1 30 = .ok (.return_, 1) := by decide +kernel
theorem d6_append_31 : decode y6_append.2.1 31 = .ok (.aload_n 0, 1) := by decide +kernel
theorem d6_append_32 : decode y6_append.2.1 32 = .ok (.getfield 11, 3) := by decide +kernel
theorem d6_append_35 : decode y6_append.2.1 35 = .ok (.aload_n 0, 1) := by decide +kernel
theorem d6_append_36 : decode y6_append.2.1 36 = .ok (.getfield 43, 3) := by decide +kernel
theorem d6_append_39 : decode y6_append.2.1 39 = .ok (.iload_n 1, 1) := by decide +kernel
theorem d6_append_40 : decode y6_append.2.1 40 = .ok (.iastore, 1) := by decide +kernel
theorem d6_append_41 : decode y6_append.2.1 41 = .ok (.aload_n 0, 1) := by decide +kernel
theorem d6_append_42 : decode y6_append.2.1 42 = .ok (.getfield 15, 3) := by decide +kernel
theorem d6_append_45 : decode y6_append.2.1 45 = .ok (.aload_n 0, 1) := by decide +kernel
theorem d6_append_46 : decode y6_append.2.1 46 = .ok (.getfield 43, 3) := by decide +kernel
theorem d6_append_49 : decode y6_append.2.1 49 = .ok (.aload_n 0, 1) := by decide +kernel
theorem d6_append_50 : decode y6_append.2.1 50 = .ok (.getfield 33, 3) := by decide +kernel
theorem d6_append_53 : decode y6_append.2.1 53 = .ok (.getfield 59, 3) := by decide +kernel
theorem d6_append_56 : decode y6_append.2.1 56 = .ok (.iastore, 1) := by decide +kernel
theorem d6_append_57 : decode y6_append.2.1 57 = .ok (.aload_n 0, 1) := by decide +kernel
theorem d6_append_58 : decode y6_append.2.1 58 = .ok (.getfield 18, 3) := by decide +kernel
theorem d6_append_61 : decode y6_append.2.1 61 = .ok (.aload_n 0, 1) := by decide +kernel
theorem d6_append_62 : decode y6_append.2.1 62 = .ok (.getfield 43, 3) := by decide +kernel
theorem d6_append_65 : decode y6_append.2.1 65 = .ok (.aload_n 0, 1) := by decide +kernel
theorem d6_append_66 : decode y6_append.2.1 66 = .ok (.getfield 33, 3) := by decide +kernel
theorem d6_append_69 : decode y6_append.2.1 69 = .ok (.getfield 62, 3) := by decide +kernel
theorem d6_append_72 : decode y6_append.2.1 72 = .ok (.iastore, 1) := by decide +kernel
theorem d6_append_73 : decode y6_append.2.1 73 = .ok (.aload_n 0, 1) := by decide +kernel
theorem d6_append_74 : decode y6_append.2.1 74 = .ok (.getfield 21, 3) := by decide +kernel
theorem d6_append_77 : decode y6_append.2.1 77 = .ok (.aload_n 0, 1) := by decide +kernel
theorem d6_append_78 : decode y6_append.2.1 78 = .ok (.getfield 43, 3) := by decide +kernel
theorem d6_append_81 : decode y6_append.2.1 81 = .ok (.aload_n 0, 1) := by decide +kernel
theorem d6_append_82 : decode y6_append.2.1 82 = .ok (.getfield 33, 3) := by decide +kernel
theorem d6_append_85 : decode y6_append.2.1 85 = .ok (.getfield 55, 3) := by decide +kernel
theorem d6_append_88 : decode y6_append.2.1 88 = .ok (.lastore, 1) := by decide +kernel
theorem d6_append_89 : decode y6_append.2.1 89 = .ok (.aload_n 0, 1) := by decide +kernel
theorem d6_append_90 : decode y6_append.2.1 90 = .ok (.dup, 1) := by decide +kernel
theorem d6_append_91 : decode y6_append.2.1 91 = .ok (.getfield 43, 3) := by decide +kernel
theorem d6_append_94 : decode y6_append.2.1 94 = .ok (.iconst 1, 1) := by decide +kernel
theorem d6_append_95 : decode y6_append.2.1 95 = .ok (.iadd, 1) := by decide +kernel
theorem d6_append_96 : decode y6_append.2.1 96 = .ok (.putfield 43, 3) := by decide +kernel
theorem d6_append_99 : decode y6_append.2.1 99 = .ok (.aload_n 0, 1) := by decide +kernel
theorem d6_append_100 : decode y6_append.2.1 100 = .ok (.getfield 27, 3) := by decide +kernel
theorem d6_append_103 : decode y6_append.2.1 103 = .ok (.aload_n 0, 1) := by decide +kernel
theorem d6_append_104 : decode y6_append.2.1 104 = .ok (.getfield 33, 3) := by decide +kernel
theorem d6_append_107 : decode y6_append.2.1 107 = .ok (.getfield 59, 3) := by decide +kernel
theorem d6_append_110 : decode y6_append.2.1 110 = .ok (.aaload, 1) := by decide +kernel
theorem d6_append_111 : decode y6_append.2.1 111 = .ok (.aload_n 0, 1) := by decide +kernel
theorem d6_append_112 : decode y6_append.2.1 112 = .ok (.getfield 33, 3) := by decide +kernel
theorem d6_append_115 : decode y6_append.2.1 115 = .ok (.getfield 62, 3) := by decide +kernel
theorem d6_append_118 : decode y6_append.2.1 118 = .ok (.aload_n 0, 1) := by decide +kernel
theorem d6_append_119 : decode y6_append.2.1 119 = .ok (.getfield 27, 3) := by decide +kernel
theorem d6_append_122 : decode y6_append.2.1 122 = .ok (.aload_n 0, 1) := by decide +kernel
theorem d6_append_123 : decode y6_append.2.1 123 = .ok (.getfield 33, 3) := by decide +kernel
theorem d6_append_126 : decode y6_append.2.1 126 = .ok (.getfield 59, 3) := by decide +kernel
theorem d6_append_129 : decode y6_append.2.1 129 = .ok (.aaload, 1) := by decide +kernel
theorem d6_append_130 : decode y6_append.2.1 130 = .ok (.aload_n 0, 1) := by decide +kernel
theorem d6_append_131 : decode y6_append.2.1 131 = .ok (.getfield 33, 3) := by decide +kernel
theorem d6_append_134 : decode y6_append.2.1 134 = .ok (.getfield 62, 3) := by decide +kernel
theorem d6_append_137 : decode y6_append.2.1 137 = .ok (.laload, 1) := by decide +kernel
theorem d6_append_138 : decode y6_append.2.1 138 = .ok (.aload_n 0, 1) := by decide +kernel
theorem d6_append_139 : decode y6_append.2.1 139 = .ok (.getfield 33, 3) := by decide +kernel
theorem d6_append_142 : decode y6_append.2.1 142 = .ok (.getfield 55, 3) := by decide +kernel
theorem d6_append_145 : decode y6_append.2.1 145 = .ok (.invokestatic 65, 3) := by decide +kernel
theorem d6_append_148 : decode y6_append.2.1 148 = .ok (.lastore, 1) := by decide +kernel
theorem d6_append_149 : decode y6_append.2.1 149 = .ok (.return_, 1) := by decide +kernel
theorem dm_min_J_0 : decode ym_min_J.2.1 0 = .ok (.lload_n 0, 1) := by decide +kernel
theorem dm_min_J_1 : decode ym_min_J.2.1 1 = .ok (.lload_n 2, 1) := by decide +kernel
theorem dm_min_J_2 : decode ym_min_J.2.1 2 = .ok (.lcmp, 1) := by decide +kernel
theorem dm_min_J_3 : decode ym_min_J.2.1 3 = .ok (.ifCond .gt 7, 3) := by decide +kernel
theorem dm_min_J_6 : decode ym_min_J.2.1 6 = .ok (.lload_n 0, 1) := by decide +kernel
theorem dm_min_J_7 : decode ym_min_J.2.1 7 = .ok (.goto 4, 3) := by decide +kernel
theorem dm_min_J_10 : decode ym_min_J.2.1 10 = .ok (.lload_n 2, 1) := by decide +kernel
theorem dm_min_J_11 : decode ym_min_J.2.1 11 = .ok (.lreturn, 1) := by decide +kernel
theorem d6_closeRows_0 : decode y6_closeRows.2.1 0 = .ok (.iconst 0, 1) := by decide +kernel
theorem d6_closeRows_1 : decode y6_closeRows.2.1 1 = .ok (.istore_n 1, 1) := by decide +kernel
theorem d6_closeRows_2 : decode y6_closeRows.2.1 2 = .ok (.iload_n 1, 1) := by decide +kernel
theorem d6_closeRows_3 : decode y6_closeRows.2.1 3 = .ok (.bipush 10, 2) := by decide +kernel
theorem d6_closeRows_5 : decode y6_closeRows.2.1 5 = .ok (.if_icmp .ge 59, 3) := by decide +kernel
theorem d6_closeRows_8 : decode y6_closeRows.2.1 8 = .ok (.iconst 0, 1) := by decide +kernel
theorem d6_closeRows_9 : decode y6_closeRows.2.1 9 = .ok (.istore_n 2, 1) := by decide +kernel
theorem d6_closeRows_10 : decode y6_closeRows.2.1 10 = .ok (.iload_n 2, 1) := by decide +kernel
theorem d6_closeRows_11 : decode y6_closeRows.2.1 11 = .ok (.bipush 10, 2) := by decide +kernel
theorem d6_closeRows_13 : decode y6_closeRows.2.1 13 = .ok (.if_icmp .ge 45, 3) := by decide +kernel
theorem d6_closeRows_16 : decode y6_closeRows.2.1 16 = .ok (.aload_n 0, 1) := by decide +kernel
theorem d6_closeRows_17 : decode y6_closeRows.2.1 17 = .ok (.getfield 27, 3) := by decide +kernel
theorem d6_closeRows_20 : decode y6_closeRows.2.1 20 = .ok (.iload_n 2, 1) := by decide +kernel
theorem d6_closeRows_21 : decode y6_closeRows.2.1 21 = .ok (.aaload, 1) := by decide +kernel
theorem d6_closeRows_22 : decode y6_closeRows.2.1 22 = .ok (.iload_n 1, 1) := by decide +kernel
theorem d6_closeRows_23 : decode y6_closeRows.2.1 23 = .ok (.laload, 1) := by decide +kernel
theorem d6_closeRows_24 : decode y6_closeRows.2.1 24 = .ok (.ldc2_w 47, 3) := by decide +kernel
theorem d6_closeRows_27 : decode y6_closeRows.2.1 27 = .ok (.lcmp, 1) := by decide +kernel
theorem d6_closeRows_28 : decode y6_closeRows.2.1 28 = .ok (.ifCond .eq 9, 3) := by decide +kernel
theorem d6_closeRows_31 : decode y6_closeRows.2.1 31 = .ok (.aload_n 0, 1) := by decide +kernel
theorem d6_closeRows_32 : decode y6_closeRows.2.1 32 = .ok (.iload_n 2, 1) := by decide +kernel
theorem d6_closeRows_33 : decode y6_closeRows.2.1 33 = .ok (.iload_n 1, 1) := by decide +kernel
theorem d6_closeRows_34 : decode y6_closeRows.2.1 34 = .ok (.invokevirtual 121, 3) := by decide +kernel
theorem d6_closeRows_37 : decode y6_closeRows.2.1 37 = .ok (.aload_n 0, 1) := by decide +kernel
theorem d6_closeRows_38 : decode y6_closeRows.2.1 38 = .ok (.getfield 27, 3) := by decide +kernel
theorem d6_closeRows_41 : decode y6_closeRows.2.1 41 = .ok (.iload_n 2, 1) := by decide +kernel
theorem d6_closeRows_42 : decode y6_closeRows.2.1 42 = .ok (.aaload, 1) := by decide +kernel
theorem d6_closeRows_43 : decode y6_closeRows.2.1 43 = .ok (.iload_n 2, 1) := by decide +kernel
theorem d6_closeRows_44 : decode y6_closeRows.2.1 44 = .ok (.laload, 1) := by decide +kernel
theorem d6_closeRows_45 : decode y6_closeRows.2.1 45 = .ok (.lconst 0, 1) := by decide +kernel
theorem d6_closeRows_46 : decode y6_closeRows.2.1 46 = .ok (.lcmp, 1) := by decide +kernel
theorem d6_closeRows_47 : decode y6_closeRows.2.1 47 = .ok (.ifCond .ge 5, 3) := by decide +kernel
theorem d6_closeRows_50 : decode y6_closeRows.2.1 50 = .ok (.iconst 0, 1) := by decide +kernel
theorem d6_closeRows_51 : decode y6_closeRows.2.1 51 = .ok (.ireturn, 1) := by decide +kernel
theorem d6_closeRows_52 : decode y6_closeRows.2.1 52 = .ok (.iinc 2 1, 3) := by decide +kernel
theorem d6_closeRows_55 : decode y6_closeRows.2.1 55 = .ok (.goto (-45), 3) := by decide +kernel
theorem d6_closeRows_58 : decode y6_closeRows.2.1 58 = .ok (.iinc 1 1, 3) := by decide +kernel
theorem d6_closeRows_61 : decode y6_closeRows.2.1 61 = .ok (.goto (-59), 3) := by decide +kernel
theorem d6_closeRows_64 : decode y6_closeRows.2.1 64 = .ok (.iconst 1, 1) := by decide +kernel
theorem d6_closeRows_65 : decode y6_closeRows.2.1 65 = .ok (.ireturn, 1) := by decide +kernel
theorem d6_closeFrom_0 : decode y6_closeFrom.2.1 0 = .ok (.aload_n 0, 1) := by decide +kernel
theorem d6_closeFrom_1 : decode y6_closeFrom.2.1 1 = .ok (.getfield 27, 3) := by decide +kernel
theorem d6_closeFrom_4 : decode y6_closeFrom.2.1 4 = .ok (.iload_n 1, 1) := by decide +kernel
theorem d6_closeFrom_5 : decode y6_closeFrom.2.1 5 = .ok (.aaload, 1) := by decide +kernel
theorem d6_closeFrom_6 : decode y6_closeFrom.2.1 6 = .ok (.iload_n 2, 1) := by decide +kernel
theorem d6_closeFrom_7 : decode y6_closeFrom.2.1 7 = .ok (.laload, 1) := by decide +kernel
theorem d6_closeFrom_8 : decode y6_closeFrom.2.1 8 = .ok (.lstore_n 3, 1) := by decide +kernel
theorem d6_closeFrom_9 : decode y6_closeFrom.2.1 9 = .ok (.iconst 0, 1) := by decide +kernel
theorem d6_closeFrom_10 : decode y6_closeFrom.2.1 10 = .ok (.istore 5, 2) := by decide +kernel
theorem d6_closeFrom_12 : decode y6_closeFrom.2.1 12 = .ok (.iload 5, 2) := by decide +kernel
theorem d6_closeFrom_14 : decode y6_closeFrom.2.1 14 = .ok (.bipush 10, 2) := by decide +kernel
theorem d6_closeFrom_16 : decode y6_closeFrom.2.1 16 = .ok (.if_icmp .ge 57, 3) := by decide +kernel
theorem d6_closeFrom_19 : decode y6_closeFrom.2.1 19 = .ok (.aload_n 0, 1) := by decide +kernel
theorem d6_closeFrom_20 : decode y6_closeFrom.2.1 20 = .ok (.getfield 27, 3) := by decide +kernel
theorem d6_closeFrom_23 : decode y6_closeFrom.2.1 23 = .ok (.iload_n 2, 1) := by decide +kernel
theorem d6_closeFrom_24 : decode y6_closeFrom.2.1 24 = .ok (.aaload, 1) := by decide +kernel
theorem d6_closeFrom_25 : decode y6_closeFrom.2.1 25 = .ok (.iload 5, 2) := by decide +kernel
theorem d6_closeFrom_27 : decode y6_closeFrom.2.1 27 = .ok (.laload, 1) := by decide +kernel
theorem d6_closeFrom_28 : decode y6_closeFrom.2.1 28 = .ok (.ldc2_w 47, 3) := by decide +kernel
theorem d6_closeFrom_31 : decode y6_closeFrom.2.1 31 = .ok (.lcmp, 1) := by decide +kernel
theorem d6_closeFrom_32 : decode y6_closeFrom.2.1 32 = .ok (.ifCond .eq 35, 3) := by decide +kernel
theorem d6_closeFrom_35 : decode y6_closeFrom.2.1 35 = .ok (.aload_n 0, 1) := by decide +kernel
theorem d6_closeFrom_36 : decode y6_closeFrom.2.1 36 = .ok (.getfield 27, 3) := by decide +kernel
theorem d6_closeFrom_39 : decode y6_closeFrom.2.1 39 = .ok (.iload_n 1, 1) := by decide +kernel
theorem d6_closeFrom_40 : decode y6_closeFrom.2.1 40 = .ok (.aaload, 1) := by decide +kernel
theorem d6_closeFrom_41 : decode y6_closeFrom.2.1 41 = .ok (.iload 5, 2) := by decide +kernel
theorem d6_closeFrom_43 : decode y6_closeFrom.2.1 43 = .ok (.aload_n 0, 1) := by decide +kernel
theorem d6_closeFrom_44 : decode y6_closeFrom.2.1 44 = .ok (.getfield 27, 3) := by decide +kernel
theorem d6_closeFrom_47 : decode y6_closeFrom.2.1 47 = .ok (.iload_n 1, 1) := by decide +kernel
theorem d6_closeFrom_48 : decode y6_closeFrom.2.1 48 = .ok (.aaload, 1) := by decide +kernel
theorem d6_closeFrom_49 : decode y6_closeFrom.2.1 49 = .ok (.iload 5, 2) := by decide +kernel
theorem d6_closeFrom_51 : decode y6_closeFrom.2.1 51 = .ok (.laload, 1) := by decide +kernel
theorem d6_closeFrom_52 : decode y6_closeFrom.2.1 52 = .ok (.lload_n 3, 1) := by decide +kernel
theorem d6_closeFrom_53 : decode y6_closeFrom.2.1 53 = .ok (.aload_n 0, 1) := by decide +kernel
theorem d6_closeFrom_54 : decode y6_closeFrom.2.1 54 = .ok (.getfield 27, 3) := by decide +kernel
theorem d6_closeFrom_57 : decode y6_closeFrom.2.1 57 = .ok (.iload_n 2, 1) := by decide +kernel
theorem d6_closeFrom_58 : decode y6_closeFrom.2.1 58 = .ok (.aaload, 1) := by decide +kernel
theorem d6_closeFrom_59 : decode y6_closeFrom.2.1 59 = .ok (.iload 5, 2) := by decide +kernel
theorem d6_closeFrom_61 : decode y6_closeFrom.2.1 61 = .ok (.laload, 1) := by decide +kernel
theorem d6_closeFrom_62 : decode y6_closeFrom.2.1 62 = .ok (.ladd, 1) := by decide +kernel
theorem d6_closeFrom_63 : decode y6_closeFrom.2.1 63 = .ok (.invokestatic 65, 3) := by decide +kernel
theorem d6_closeFrom_66 : decode y6_closeFrom.2.1 66 = .ok (.lastore, 1) := by decide +kernel
theorem d6_closeFrom_67 : decode y6_closeFrom.2.1 67 = .ok (.iinc 5 1, 3) := by decide +kernel
theorem d6_closeFrom_70 : decode y6_closeFrom.2.1 70 = .ok (.goto (-58), 3) := by decide +kernel
theorem d6_closeFrom_73 : decode y6_closeFrom.2.1 73 = .ok (.return_, 1) := by decide +kernel
theorem d5_joinBounds_0 : decode y5_joinBounds.2.1 0 = .ok (.iconst 0, 1) := by decide +kernel
theorem d5_joinBounds_1 : decode y5_joinBounds.2.1 1 = .ok (.istore_n 2, 1) := by decide +kernel
theorem d5_joinBounds_2 : decode y5_joinBounds.2.1 2 = .ok (.iload_n 2, 1) := by decide +kernel
theorem d5_joinBounds_3 : decode y5_joinBounds.2.1 3 = .ok (.bipush 100, 2) := by decide +kernel
theorem d5_joinBounds_5 : decode y5_joinBounds.2.1 5 = .ok (.if_icmp .ge 73, 3) := by decide +kernel
theorem d5_joinBounds_8 : decode y5_joinBounds.2.1 8 = .ok (.iload_n 2, 1) := by decide +kernel
theorem d5_joinBounds_9 : decode y5_joinBounds.2.1 9 = .ok (.bipush 10, 2) := by decide +kernel
theorem d5_joinBounds_11 : decode y5_joinBounds.2.1 11 = .ok (.idiv, 1) := by decide +kernel
theorem d5_joinBounds_12 : decode y5_joinBounds.2.1 12 = .ok (.istore_n 3, 1) := by decide +kernel
theorem d5_joinBounds_13 : decode y5_joinBounds.2.1 13 = .ok (.iload_n 2, 1) := by decide +kernel
theorem d5_joinBounds_14 : decode y5_joinBounds.2.1 14 = .ok (.bipush 10, 2) := by decide +kernel
theorem d5_joinBounds_16 : decode y5_joinBounds.2.1 16 = .ok (.irem, 1) := by decide +kernel
theorem d5_joinBounds_17 : decode y5_joinBounds.2.1 17 = .ok (.istore 4, 2) := by decide +kernel
theorem d5_joinBounds_19 : decode y5_joinBounds.2.1 19 = .ok (.iload_n 3, 1) := by decide +kernel
theorem d5_joinBounds_20 : decode y5_joinBounds.2.1 20 = .ok (.iload 4, 2) := by decide +kernel
theorem d5_joinBounds_22 : decode y5_joinBounds.2.1 22 = .ok (.if_icmp .eq 50, 3) := by decide +kernel
theorem d5_joinBounds_25 : decode y5_joinBounds.2.1 25 = .ok (.aload_n 0, 1) := by decide +kernel
theorem d5_joinBounds_26 : decode y5_joinBounds.2.1 26 = .ok (.getfield 36, 3) := by decide +kernel
theorem d5_joinBounds_29 : decode y5_joinBounds.2.1 29 = .ok (.iload_n 3, 1) := by decide +kernel
theorem d5_joinBounds_30 : decode y5_joinBounds.2.1 30 = .ok (.iload 4, 2) := by decide +kernel
theorem d5_joinBounds_32 : decode y5_joinBounds.2.1 32 = .ok (.invokevirtual 131, 3) := by decide +kernel
theorem d5_joinBounds_35 : decode y5_joinBounds.2.1 35 = .ok (.lstore 5, 2) := by decide +kernel
theorem d5_joinBounds_37 : decode y5_joinBounds.2.1 37 = .ok (.aload_n 0, 1) := by decide +kernel
theorem d5_joinBounds_38 : decode y5_joinBounds.2.1 38 = .ok (.getfield 11, 3) := by decide +kernel
theorem d5_joinBounds_41 : decode y5_joinBounds.2.1 41 = .ok (.iload_n 1, 1) := by decide +kernel
theorem d5_joinBounds_42 : decode y5_joinBounds.2.1 42 = .ok (.aaload, 1) := by decide +kernel
theorem d5_joinBounds_43 : decode y5_joinBounds.2.1 43 = .ok (.iload_n 2, 1) := by decide +kernel
theorem d5_joinBounds_44 : decode y5_joinBounds.2.1 44 = .ok (.aload_n 0, 1) := by decide +kernel
theorem d5_joinBounds_45 : decode y5_joinBounds.2.1 45 = .ok (.getfield 16, 3) := by decide +kernel
theorem d5_joinBounds_48 : decode y5_joinBounds.2.1 48 = .ok (.iload_n 1, 1) := by decide +kernel
theorem d5_joinBounds_49 : decode y5_joinBounds.2.1 49 = .ok (.baload, 1) := by decide +kernel
theorem d5_joinBounds_50 : decode y5_joinBounds.2.1 50 = .ok (.ifCond .eq 19, 3) := by decide +kernel
theorem d5_joinBounds_53 : decode y5_joinBounds.2.1 53 = .ok (.aload_n 0, 1) := by decide +kernel
theorem d5_joinBounds_54 : decode y5_joinBounds.2.1 54 = .ok (.getfield 11, 3) := by decide +kernel
theorem d5_joinBounds_57 : decode y5_joinBounds.2.1 57 = .ok (.iload_n 1, 1) := by decide +kernel
theorem d5_joinBounds_58 : decode y5_joinBounds.2.1 58 = .ok (.aaload, 1) := by decide +kernel
theorem d5_joinBounds_59 : decode y5_joinBounds.2.1 59 = .ok (.iload_n 2, 1) := by decide +kernel
theorem d5_joinBounds_60 : decode y5_joinBounds.2.1 60 = .ok (.laload, 1) := by decide +kernel
theorem d5_joinBounds_61 : decode y5_joinBounds.2.1 61 = .ok (.lload 5, 2) := by decide +kernel
theorem d5_joinBounds_63 : decode y5_joinBounds.2.1 63 = .ok (.invokestatic 135, 3) := by decide +kernel
theorem d5_joinBounds_66 : decode y5_joinBounds.2.1 66 = .ok (.goto 5, 3) := by decide +kernel
theorem d5_joinBounds_69 : decode y5_joinBounds.2.1 69 = .ok (.lload 5, 2) := by decide +kernel
theorem d5_joinBounds_71 : decode y5_joinBounds.2.1 71 = .ok (.lastore, 1) := by decide +kernel
theorem d5_joinBounds_72 : decode y5_joinBounds.2.1 72 = .ok (.iinc 2 1, 3) := by decide +kernel
theorem d5_joinBounds_75 : decode y5_joinBounds.2.1 75 = .ok (.goto (-73), 3) := by decide +kernel
theorem d5_joinBounds_78 : decode y5_joinBounds.2.1 78 = .ok (.aload_n 0, 1) := by decide +kernel
theorem d5_joinBounds_79 : decode y5_joinBounds.2.1 79 = .ok (.getfield 16, 3) := by decide +kernel
theorem d5_joinBounds_82 : decode y5_joinBounds.2.1 82 = .ok (.iload_n 1, 1) := by decide +kernel
theorem d5_joinBounds_83 : decode y5_joinBounds.2.1 83 = .ok (.iconst 1, 1) := by decide +kernel
theorem d5_joinBounds_84 : decode y5_joinBounds.2.1 84 = .ok (.bastore, 1) := by decide +kernel
theorem d5_joinBounds_85 : decode y5_joinBounds.2.1 85 = .ok (.return_, 1) := by decide +kernel
theorem d6_bound_0 : decode y6_bound.2.1 0 = .ok (.aload_n 0, 1) := by decide +kernel
theorem d6_bound_1 : decode y6_bound.2.1 1 = .ok (.getfield 27, 3) := by decide +kernel
theorem d6_bound_4 : decode y6_bound.2.1 4 = .ok (.iload_n 1, 1) := by decide +kernel
theorem d6_bound_5 : decode y6_bound.2.1 5 = .ok (.aaload, 1) := by decide +kernel
theorem d6_bound_6 : decode y6_bound.2.1 6 = .ok (.iload_n 2, 1) := by decide +kernel
theorem d6_bound_7 : decode y6_bound.2.1 7 = .ok (.laload, 1) := by decide +kernel
theorem d6_bound_8 : decode y6_bound.2.1 8 = .ok (.lstore_n 3, 1) := by decide +kernel
theorem d6_bound_9 : decode y6_bound.2.1 9 = .ok (.lload_n 3, 1) := by decide +kernel
theorem d6_bound_10 : decode y6_bound.2.1 10 = .ok (.lload_n 3, 1) := by decide +kernel
theorem d6_bound_11 : decode y6_bound.2.1 11 = .ok (.l2i, 1) := by decide +kernel
theorem d6_bound_12 : decode y6_bound.2.1 12 = .ok (.i2l, 1) := by decide +kernel
theorem d6_bound_13 : decode y6_bound.2.1 13 = .ok (.lcmp, 1) := by decide +kernel
theorem d6_bound_14 : decode y6_bound.2.1 14 = .ok (.ifCond .ne 7, 3) := by decide +kernel
theorem d6_bound_17 : decode y6_bound.2.1 17 = .ok (.lload_n 3, 1) := by decide +kernel
theorem d6_bound_18 : decode y6_bound.2.1 18 = .ok (.goto 6, 3) := by decide +kernel
theorem d6_bound_21 : decode y6_bound.2.1 21 = .ok (.ldc2_w 47, 3) := by decide +kernel
theorem d6_bound_24 : decode y6_bound.2.1 24 = .ok (.lreturn, 1) := by decide +kernel
theorem dm_max_J_0 : decode ym_max_J.2.1 0 = .ok (.lload_n 0, 1) := by decide +kernel
theorem dm_max_J_1 : decode ym_max_J.2.1 1 = .ok (.lload_n 2, 1) := by decide +kernel
theorem dm_max_J_2 : decode ym_max_J.2.1 2 = .ok (.lcmp, 1) := by decide +kernel
theorem dm_max_J_3 : decode ym_max_J.2.1 3 = .ok (.ifCond .lt 7, 3) := by decide +kernel
theorem dm_max_J_6 : decode ym_max_J.2.1 6 = .ok (.lload_n 0, 1) := by decide +kernel
theorem dm_max_J_7 : decode ym_max_J.2.1 7 = .ok (.goto 4, 3) := by decide +kernel
theorem dm_max_J_10 : decode ym_max_J.2.1 10 = .ok (.lload_n 2, 1) := by decide +kernel
theorem dm_max_J_11 : decode ym_max_J.2.1 11 = .ok (.lreturn, 1) := by decide +kernel
theorem d2_edgeCount_0 : decode y2_edgeCount.2.1 0 = .ok (.aload_n 0, 1) := by decide +kernel
theorem d2_edgeCount_1 : decode y2_edgeCount.2.1 1 = .ok (.getfield 30, 3) := by decide +kernel
theorem d2_edgeCount_4 : decode y2_edgeCount.2.1 4 = .ok (.ifCond .ne 5, 3) := by decide +kernel
theorem d2_edgeCount_7 : decode y2_edgeCount.2.1 7 = .ok (.iconst 0, 1) := by decide +kernel
theorem d2_edgeCount_8 : decode y2_edgeCount.2.1 8 = .ok (.ireturn, 1) := by decide +kernel
theorem d2_edgeCount_9 : decode y2_edgeCount.2.1 9 = .ok (.aload_n 0, 1) := by decide +kernel
theorem d2_edgeCount_10 : decode y2_edgeCount.2.1 10 = .ok (.getfield 30, 3) := by decide +kernel
theorem d2_edgeCount_13 : decode y2_edgeCount.2.1 13 = .ok (.bipush 14, 2) := by decide +kernel
theorem d2_edgeCount_15 : decode y2_edgeCount.2.1 15 = .ok (.if_icmp .lt 7, 3) := by decide +kernel
theorem d2_edgeCount_18 : decode y2_edgeCount.2.1 18 = .ok (.iconst 2, 1) := by decide +kernel
theorem d2_edgeCount_19 : decode y2_edgeCount.2.1 19 = .ok (.goto 4, 3) := by decide +kernel
theorem d2_edgeCount_22 : decode y2_edgeCount.2.1 22 = .ok (.iconst 1, 1) := by decide +kernel
theorem d2_edgeCount_23 : decode y2_edgeCount.2.1 23 = .ok (.ireturn, 1) := by decide +kernel
theorem d6_takeEdge_0 : decode y6_takeEdge.2.1 0 = .ok (.aload_n 0, 1) := by decide +kernel
theorem d6_takeEdge_1 : decode y6_takeEdge.2.1 1 = .ok (.invokevirtual 71, 3) := by decide +kernel
theorem d6_takeEdge_4 : decode y6_takeEdge.2.1 4 = .ok (.iconst 0, 1) := by decide +kernel
theorem d6_takeEdge_5 : decode y6_takeEdge.2.1 5 = .ok (.istore 4, 2) := by decide +kernel
theorem d6_takeEdge_7 : decode y6_takeEdge.2.1 7 = .ok (.iload 4, 2) := by decide +kernel
theorem d6_takeEdge_9 : decode y6_takeEdge.2.1 9 = .ok (.bipush 100, 2) := by decide +kernel
theorem d6_takeEdge_11 : decode y6_takeEdge.2.1 11 = .ok (.if_icmp .ge 39, 3) := by decide +kernel
theorem d6_takeEdge_14 : decode y6_takeEdge.2.1 14 = .ok (.aload_n 0, 1) := by decide +kernel
theorem d6_takeEdge_15 : decode y6_takeEdge.2.1 15 = .ok (.getfield 33, 3) := by decide +kernel
theorem d6_takeEdge_18 : decode y6_takeEdge.2.1 18 = .ok (.aload_n 3, 1) := by decide +kernel
theorem d6_takeEdge_19 : decode y6_takeEdge.2.1 19 = .ok (.iload 4, 2) := by decide +kernel
theorem d6_takeEdge_21 : decode y6_takeEdge.2.1 21 = .ok (.invokestatic 82, 3) := by decide +kernel
theorem d6_takeEdge_24 : decode y6_takeEdge.2.1 24 = .ok (.ifCond .eq 20, 3) := by decide +kernel
theorem d6_takeEdge_27 : decode y6_takeEdge.2.1 27 = .ok (.aload_n 0, 1) := by decide +kernel
theorem d6_takeEdge_28 : decode y6_takeEdge.2.1 28 = .ok (.getfield 33, 3) := by decide +kernel
theorem d6_takeEdge_31 : decode y6_takeEdge.2.1 31 = .ok (.aload_n 1, 1) := by decide +kernel
theorem d6_takeEdge_32 : decode y6_takeEdge.2.1 32 = .ok (.invokevirtual 86, 3) := by decide +kernel
theorem d6_takeEdge_35 : decode y6_takeEdge.2.1 35 = .ok (.ifCond .eq 9, 3) := by decide +kernel
theorem d6_takeEdge_38 : decode y6_takeEdge.2.1 38 = .ok (.aload_n 0, 1) := by decide +kernel
theorem d6_takeEdge_39 : decode y6_takeEdge.2.1 39 = .ok (.iload 4, 2) := by decide +kernel
theorem d6_takeEdge_41 : decode y6_takeEdge.2.1 41 = .ok (.invokevirtual 78, 3) := by decide +kernel
theorem d6_takeEdge_44 : decode y6_takeEdge.2.1 44 = .ok (.iinc 4 1, 3) := by decide +kernel
theorem d6_takeEdge_47 : decode y6_takeEdge.2.1 47 = .ok (.goto (-40), 3) := by decide +kernel
theorem d6_takeEdge_50 : decode y6_takeEdge.2.1 50 = .ok (.aload_n 1, 1) := by decide +kernel
theorem d6_takeEdge_51 : decode y6_takeEdge.2.1 51 = .ok (.getfield 90, 3) := by decide +kernel
theorem d6_takeEdge_54 : decode y6_takeEdge.2.1 54 = .ok (.iconst 4, 1) := by decide +kernel
theorem d6_takeEdge_55 : decode y6_takeEdge.2.1 55 = .ok (.if_icmp .ne 10, 3) := by decide +kernel
theorem d6_takeEdge_58 : decode y6_takeEdge.2.1 58 = .ok (.aload_n 0, 1) := by decide +kernel
theorem d6_takeEdge_59 : decode y6_takeEdge.2.1 59 = .ok (.aload_n 1, 1) := by decide +kernel
theorem d6_takeEdge_60 : decode y6_takeEdge.2.1 60 = .ok (.aload_n 3, 1) := by decide +kernel
theorem d6_takeEdge_61 : decode y6_takeEdge.2.1 61 = .ok (.invokevirtual 95, 3) := by decide +kernel
theorem d6_takeEdge_64 : decode y6_takeEdge.2.1 64 = .ok (.return_, 1) := by decide +kernel
theorem d6_takeEdge_65 : decode y6_takeEdge.2.1 65 = .ok (.iconst 0, 1) := by decide +kernel
theorem d6_takeEdge_66 : decode y6_takeEdge.2.1 66 = .ok (.istore 4, 2) := by decide +kernel
theorem d6_takeEdge_68 : decode y6_takeEdge.2.1 68 = .ok (.iload 4, 2) := by decide +kernel
theorem d6_takeEdge_70 : decode y6_takeEdge.2.1 70 = .ok (.iconst 2, 1) := by decide +kernel
theorem d6_takeEdge_71 : decode y6_takeEdge.2.1 71 = .ok (.if_icmp .ge 36, 3) := by decide +kernel
theorem d6_takeEdge_74 : decode y6_takeEdge.2.1 74 = .ok (.aload_n 0, 1) := by decide +kernel
theorem d6_takeEdge_75 : decode y6_takeEdge.2.1 75 = .ok (.getfield 33, 3) := by decide +kernel
theorem d6_takeEdge_78 : decode y6_takeEdge.2.1 78 = .ok (.aload_n 1, 1) := by decide +kernel
theorem d6_takeEdge_79 : decode y6_takeEdge.2.1 79 = .ok (.aload_n 1, 1) := by decide +kernel
theorem d6_takeEdge_80 : decode y6_takeEdge.2.1 80 = .ok (.iload_n 2, 1) := by decide +kernel
theorem d6_takeEdge_81 : decode y6_takeEdge.2.1 81 = .ok (.invokevirtual 99, 3) := by decide +kernel
theorem d6_takeEdge_84 : decode y6_takeEdge.2.1 84 = .ok (.iload 4, 2) := by decide +kernel
theorem d6_takeEdge_86 : decode y6_takeEdge.2.1 86 = .ok (.invokevirtual 103, 3) := by decide +kernel
theorem d6_takeEdge_89 : decode y6_takeEdge.2.1 89 = .ok (.ifCond .eq 12, 3) := by decide +kernel
theorem d6_takeEdge_92 : decode y6_takeEdge.2.1 92 = .ok (.aload_n 0, 1) := by decide +kernel
theorem d6_takeEdge_93 : decode y6_takeEdge.2.1 93 = .ok (.bipush 100, 2) := by decide +kernel
theorem d6_takeEdge_95 : decode y6_takeEdge.2.1 95 = .ok (.iload 4, 2) := by decide +kernel
theorem d6_takeEdge_97 : decode y6_takeEdge.2.1 97 = .ok (.iadd, 1) := by decide +kernel
theorem d6_takeEdge_98 : decode y6_takeEdge.2.1 98 = .ok (.invokevirtual 78, 3) := by decide +kernel
theorem d6_takeEdge_101 : decode y6_takeEdge.2.1 101 = .ok (.iinc 4 1, 3) := by decide +kernel
theorem d6_takeEdge_104 : decode y6_takeEdge.2.1 104 = .ok (.goto (-36), 3) := by decide +kernel
theorem d6_takeEdge_107 : decode y6_takeEdge.2.1 107 = .ok (.return_, 1) := by decide +kernel
theorem d6_findBound_0 : decode y6_findBound.2.1 0 = .ok (.aload_n 1, 1) := by decide +kernel
theorem d6_findBound_1 : decode y6_findBound.2.1 1 = .ok (.iload_n 2, 1) := by decide +kernel
theorem d6_findBound_2 : decode y6_findBound.2.1 2 = .ok (.laload, 1) := by decide +kernel
theorem d6_findBound_3 : decode y6_findBound.2.1 3 = .ok (.ldc2_w 47, 3) := by decide +kernel
theorem d6_findBound_6 : decode y6_findBound.2.1 6 = .ok (.lcmp, 1) := by decide +kernel
theorem d6_findBound_7 : decode y6_findBound.2.1 7 = .ok (.ifCond .eq 25, 3) := by decide +kernel
theorem d6_findBound_10 : decode y6_findBound.2.1 10 = .ok (.aload_n 0, 1) := by decide +kernel
theorem d6_findBound_11 : decode y6_findBound.2.1 11 = .ok (.iload_n 2, 1) := by decide +kernel
theorem d6_findBound_12 : decode y6_findBound.2.1 12 = .ok (.bipush 10, 2) := by decide +kernel
theorem d6_findBound_14 : decode y6_findBound.2.1 14 = .ok (.idiv, 1) := by decide +kernel
theorem d6_findBound_15 : decode y6_findBound.2.1 15 = .ok (.iload_n 2, 1) := by decide +kernel
theorem d6_findBound_16 : decode y6_findBound.2.1 16 = .ok (.bipush 10, 2) := by decide +kernel
theorem d6_findBound_18 : decode y6_findBound.2.1 18 = .ok (.irem, 1) := by decide +kernel
theorem d6_findBound_19 : decode y6_findBound.2.1 19 = .ok (.aload_n 1, 1) := by decide +kernel
theorem d6_findBound_20 : decode y6_findBound.2.1 20 = .ok (.iload_n 2, 1) := by decide +kernel
theorem d6_findBound_21 : decode y6_findBound.2.1 21 = .ok (.laload, 1) := by decide +kernel
theorem d6_findBound_22 : decode y6_findBound.2.1 22 = .ok (.invokevirtual 117, 3) := by decide +kernel
theorem d6_findBound_25 : decode y6_findBound.2.1 25 = .ok (.ifCond .eq 7, 3) := by decide +kernel
theorem d6_findBound_28 : decode y6_findBound.2.1 28 = .ok (.iconst 1, 1) := by decide +kernel
theorem d6_findBound_29 : decode y6_findBound.2.1 29 = .ok (.goto 4, 3) := by decide +kernel
theorem d6_findBound_32 : decode y6_findBound.2.1 32 = .ok (.iconst 0, 1) := by decide +kernel
theorem d6_findBound_33 : decode y6_findBound.2.1 33 = .ok (.ireturn, 1) := by decide +kernel
theorem d7_carryOver_0 : decode y7_carryOver.2.1 0 = .ok (.iconst 1, 1) := by decide +kernel
theorem d7_carryOver_1 : decode y7_carryOver.2.1 1 = .ok (.aload_n 1, 1) := by decide +kernel
theorem d7_carryOver_2 : decode y7_carryOver.2.1 2 = .ok (.getfield 32, 3) := by decide +kernel
theorem d7_carryOver_5 : decode y7_carryOver.2.1 5 = .ok (.iadd, 1) := by decide +kernel
theorem d7_carryOver_6 : decode y7_carryOver.2.1 6 = .ok (.istore_n 2, 1) := by decide +kernel
theorem d7_carryOver_7 : decode y7_carryOver.2.1 7 = .ok (.aload_n 0, 1) := by decide +kernel
theorem d7_carryOver_8 : decode y7_carryOver.2.1 8 = .ok (.getfield 9, 3) := by decide +kernel
theorem d7_carryOver_11 : decode y7_carryOver.2.1 11 = .ok (.iload_n 2, 1) := by decide +kernel
theorem d7_carryOver_12 : decode y7_carryOver.2.1 12 = .ok (.if_icmp .eq 11, 3) := by decide +kernel
theorem d7_carryOver_15 : decode y7_carryOver.2.1 15 = .ok (.aload_n 0, 1) := by decide +kernel
theorem d7_carryOver_16 : decode y7_carryOver.2.1 16 = .ok (.getfield 15, 3) := by decide +kernel
theorem d7_carryOver_19 : decode y7_carryOver.2.1 19 = .ok (.iload_n 2, 1) := by decide +kernel
theorem d7_carryOver_20 : decode y7_carryOver.2.1 20 = .ok (.if_icmp .ne 10, 3) := by decide +kernel
theorem d7_carryOver_23 : decode y7_carryOver.2.1 23 = .ok (.aload_n 1, 1) := by decide +kernel
theorem d7_carryOver_24 : decode y7_carryOver.2.1 24 = .ok (.invokevirtual 37, 3) := by decide +kernel
theorem d7_carryOver_27 : decode y7_carryOver.2.1 27 = .ok (.ifCond .ne 5, 3) := by decide +kernel
theorem d7_carryOver_30 : decode y7_carryOver.2.1 30 = .ok (.iconst 1, 1) := by decide +kernel
theorem d7_carryOver_31 : decode y7_carryOver.2.1 31 = .ok (.ireturn, 1) := by decide +kernel
theorem d7_carryOver_32 : decode y7_carryOver.2.1 32 = .ok (.aload_n 1, 1) := by decide +kernel
theorem d7_carryOver_33 : decode y7_carryOver.2.1 33 = .ok (.getfield 41, 3) := by decide +kernel
theorem d7_carryOver_36 : decode y7_carryOver.2.1 36 = .ok (.iconst 3, 1) := by decide +kernel
theorem d7_carryOver_37 : decode y7_carryOver.2.1 37 = .ok (.if_icmp .ne 36, 3) := by decide +kernel
theorem d7_carryOver_40 : decode y7_carryOver.2.1 40 = .ok (.aload_n 0, 1) := by decide +kernel
theorem d7_carryOver_41 : decode y7_carryOver.2.1 41 = .ok (.dup, 1) := by decide +kernel
theorem d7_carryOver_42 : decode y7_carryOver.2.1 42 = .ok (.getfield 18, 3) := by decide +kernel
theorem d7_carryOver_45 : decode y7_carryOver.2.1 45 = .ok (.aload_n 0, 1) := by decide +kernel
theorem d7_carryOver_46 : decode y7_carryOver.2.1 46 = .ok (.getfield 9, 3) := by decide +kernel
theorem d7_carryOver_49 : decode y7_carryOver.2.1 49 = .ok (.iload_n 2, 1) := by decide +kernel
theorem d7_carryOver_50 : decode y7_carryOver.2.1 50 = .ok (.if_icmp .ne 11, 3) := by decide +kernel
theorem d7_carryOver_53 : decode y7_carryOver.2.1 53 = .ok (.aload_n 1, 1) := by decide +kernel
theorem d7_carryOver_54 : decode y7_carryOver.2.1 54 = .ok (.getfield 44, 3) := by decide +kernel
theorem d7_carryOver_57 : decode y7_carryOver.2.1 57 = .ok (.i2l, 1) := by decide +kernel
theorem d7_carryOver_58 : decode y7_carryOver.2.1 58 = .ok (.goto 9, 3) := by decide +kernel
theorem d7_carryOver_61 : decode y7_carryOver.2.1 61 = .ok (.aload_n 1, 1) := by decide +kernel
theorem d7_carryOver_62 : decode y7_carryOver.2.1 62 = .ok (.getfield 44, 3) := by decide +kernel
theorem d7_carryOver_65 : decode y7_carryOver.2.1 65 = .ok (.i2l, 1) := by decide +kernel
theorem d7_carryOver_66 : decode y7_carryOver.2.1 66 = .ok (.lneg, 1) := by decide +kernel
theorem d7_carryOver_67 : decode y7_carryOver.2.1 67 = .ok (.ladd, 1) := by decide +kernel
theorem d7_carryOver_68 : decode y7_carryOver.2.1 68 = .ok (.putfield 18, 3) := by decide +kernel
theorem d7_carryOver_71 : decode y7_carryOver.2.1 71 = .ok (.iconst 1, 1) := by decide +kernel
theorem d7_carryOver_72 : decode y7_carryOver.2.1 72 = .ok (.ireturn, 1) := by decide +kernel
theorem d7_carryOver_73 : decode y7_carryOver.2.1 73 = .ok (.aload_n 1, 1) := by decide +kernel
theorem d7_carryOver_74 : decode y7_carryOver.2.1 74 = .ok (.getfield 41, 3) := by decide +kernel
theorem d7_carryOver_77 : decode y7_carryOver.2.1 77 = .ok (.iconst 5, 1) := by decide +kernel
theorem d7_carryOver_78 : decode y7_carryOver.2.1 78 = .ok (.if_icmp .ne 14, 3) := by decide +kernel
theorem d7_carryOver_81 : decode y7_carryOver.2.1 81 = .ok (.aload_n 1, 1) := by decide +kernel
theorem d7_carryOver_82 : decode y7_carryOver.2.1 82 = .ok (.getfield 32, 3) := by decide +kernel
theorem d7_carryOver_85 : decode y7_carryOver.2.1 85 = .ok (.aload_n 1, 1) := by decide +kernel
theorem d7_carryOver_86 : decode y7_carryOver.2.1 86 = .ok (.getfield 47, 3) := by decide +kernel
theorem d7_carryOver_89 : decode y7_carryOver.2.1 89 = .ok (.if_icmp .ne 5, 3) := by decide +kernel
theorem d7_carryOver_92 : decode y7_carryOver.2.1 92 = .ok (.iconst 0, 1) := by decide +kernel
theorem d7_carryOver_93 : decode y7_carryOver.2.1 93 = .ok (.ireturn, 1) := by decide +kernel
theorem d7_carryOver_94 : decode y7_carryOver.2.1 94 = .ok (.iconst 1, 1) := by decide +kernel
theorem d7_carryOver_95 : decode y7_carryOver.2.1 95 = .ok (.aload_n 1, 1) := by decide +kernel
theorem d7_carryOver_96 : decode y7_carryOver.2.1 96 = .ok (.getfield 47, 3) := by decide +kernel
theorem d7_carryOver_99 : decode y7_carryOver.2.1 99 = .ok (.iadd, 1) := by decide +kernel
theorem d7_carryOver_100 : decode y7_carryOver.2.1 100 = .ok (.istore_n 3, 1) := by decide +kernel
theorem d7_carryOver_101 : decode y7_carryOver.2.1 101 = .ok (.aload_n 0, 1) := by decide +kernel
theorem d7_carryOver_102 : decode y7_carryOver.2.1 102 = .ok (.getfield 9, 3) := by decide +kernel
theorem d7_carryOver_105 : decode y7_carryOver.2.1 105 = .ok (.iload_n 2, 1) := by decide +kernel
theorem d7_carryOver_106 : decode y7_carryOver.2.1 106 = .ok (.if_icmp .ne 18, 3) := by decide +kernel
theorem d7_carryOver_109 : decode y7_carryOver.2.1 109 = .ok (.aload_n 0, 1) := by decide +kernel
theorem d7_carryOver_110 : decode y7_carryOver.2.1 110 = .ok (.getfield 15, 3) := by decide +kernel
theorem d7_carryOver_113 : decode y7_carryOver.2.1 113 = .ok (.iload_n 3, 1) := by decide +kernel
theorem d7_carryOver_114 : decode y7_carryOver.2.1 114 = .ok (.if_icmp .ne 10, 3) := by decide +kernel
theorem d7_carryOver_117 : decode y7_carryOver.2.1 117 = .ok (.aload_n 0, 1) := by decide +kernel
theorem d7_carryOver_118 : decode y7_carryOver.2.1 118 = .ok (.iconst 0, 1) := by decide +kernel
theorem d7_carryOver_119 : decode y7_carryOver.2.1 119 = .ok (.putfield 15, 3) := by decide +kernel
theorem d7_carryOver_122 : decode y7_carryOver.2.1 122 = .ok (.iconst 1, 1) := by decide +kernel
theorem d7_carryOver_123 : decode y7_carryOver.2.1 123 = .ok (.ireturn, 1) := by decide +kernel
theorem d7_carryOver_124 : decode y7_carryOver.2.1 124 = .ok (.aload_n 0, 1) := by decide +kernel
theorem d7_carryOver_125 : decode y7_carryOver.2.1 125 = .ok (.getfield 9, 3) := by decide +kernel
theorem d7_carryOver_128 : decode y7_carryOver.2.1 128 = .ok (.iload_n 3, 1) := by decide +kernel
theorem d7_carryOver_129 : decode y7_carryOver.2.1 129 = .ok (.if_icmp .ne 18, 3) := by decide +kernel
theorem d7_carryOver_132 : decode y7_carryOver.2.1 132 = .ok (.aload_n 0, 1) := by decide +kernel
theorem d7_carryOver_133 : decode y7_carryOver.2.1 133 = .ok (.getfield 15, 3) := by decide +kernel
theorem d7_carryOver_136 : decode y7_carryOver.2.1 136 = .ok (.iload_n 2, 1) := by decide +kernel
theorem d7_carryOver_137 : decode y7_carryOver.2.1 137 = .ok (.if_icmp .ne 10, 3) := by decide +kernel
theorem d7_carryOver_140 : decode y7_carryOver.2.1 140 = .ok (.aload_n 0, 1) := by decide +kernel
theorem d7_carryOver_141 : decode y7_carryOver.2.1 141 = .ok (.iconst 0, 1) := by decide +kernel
theorem d7_carryOver_142 : decode y7_carryOver.2.1 142 = .ok (.putfield 9, 3) := by decide +kernel
theorem d7_carryOver_145 : decode y7_carryOver.2.1 145 = .ok (.iconst 1, 1) := by decide +kernel
theorem d7_carryOver_146 : decode y7_carryOver.2.1 146 = .ok (.ireturn, 1) := by decide +kernel
theorem d7_carryOver_147 : decode y7_carryOver.2.1 147 = .ok (.iconst 0, 1) := by decide +kernel
theorem d7_carryOver_148 : decode y7_carryOver.2.1 148 = .ok (.ireturn, 1) := by decide +kernel
theorem d2_changesRegister_0 : decode y2_changesRegister.2.1 0 = .ok (.aload_n 0, 1) := by decide +kernel
theorem d2_changesRegister_1 : decode y2_changesRegister.2.1 1 = .ok (.getfield 30, 3) := by decide +kernel
theorem d2_changesRegister_4 : decode y2_changesRegister.2.1 4 = .ok (.iconst 2, 1) := by decide +kernel
theorem d2_changesRegister_5 : decode y2_changesRegister.2.1 5 = .ok (.if_icmp .ne 16, 3) := by decide +kernel
theorem d2_changesRegister_8 : decode y2_changesRegister.2.1 8 = .ok (.aload_n 0, 1) := by decide +kernel
theorem d2_changesRegister_9 : decode y2_changesRegister.2.1 9 = .ok (.getfield 9, 3) := by decide +kernel
theorem d2_changesRegister_12 : decode y2_changesRegister.2.1 12 = .ok (.aload_n 0, 1) := by decide +kernel
theorem d2_changesRegister_13 : decode y2_changesRegister.2.1 13 = .ok (.getfield 19, 3) := by decide +kernel
theorem d2_changesRegister_16 : decode y2_changesRegister.2.1 16 = .ok (.if_icmp .ne 5, 3) := by decide +kernel
theorem d2_changesRegister_19 : decode y2_changesRegister.2.1 19 = .ok (.iconst 0, 1) := by decide +kernel
theorem d2_changesRegister_20 : decode y2_changesRegister.2.1 20 = .ok (.ireturn, 1) := by decide +kernel
theorem d2_changesRegister_21 : decode y2_changesRegister.2.1 21 = .ok (.aload_n 0, 1) := by decide +kernel
theorem d2_changesRegister_22 : decode y2_changesRegister.2.1 22 = .ok (.getfield 30, 3) := by decide +kernel
theorem d2_changesRegister_25 : decode y2_changesRegister.2.1 25 = .ok (.iconst 1, 1) := by decide +kernel
theorem d2_changesRegister_26 : decode y2_changesRegister.2.1 26 = .ok (.if_icmp .lt 16, 3) := by decide +kernel
theorem d2_changesRegister_29 : decode y2_changesRegister.2.1 29 = .ok (.aload_n 0, 1) := by decide +kernel
theorem d2_changesRegister_30 : decode y2_changesRegister.2.1 30 = .ok (.getfield 30, 3) := by decide +kernel
theorem d2_changesRegister_33 : decode y2_changesRegister.2.1 33 = .ok (.bipush 11, 2) := by decide +kernel
theorem d2_changesRegister_35 : decode y2_changesRegister.2.1 35 = .ok (.if_icmp .gt 7, 3) := by decide +kernel
theorem d2_changesRegister_38 : decode y2_changesRegister.2.1 38 = .ok (.iconst 1, 1) := by decide +kernel
theorem d2_changesRegister_39 : decode y2_changesRegister.2.1 39 = .ok (.goto 4, 3) := by decide +kernel
theorem d2_changesRegister_42 : decode y2_changesRegister.2.1 42 = .ok (.iconst 0, 1) := by decide +kernel
theorem d2_changesRegister_43 : decode y2_changesRegister.2.1 43 = .ok (.ireturn, 1) := by decide +kernel
theorem d6_takeSums_0 : decode y6_takeSums.2.1 0 = .ok (.bipush 10, 2) := by decide +kernel
theorem d6_takeSums_2 : decode y6_takeSums.2.1 2 = .ok (.iconst 1, 1) := by decide +kernel
theorem d6_takeSums_3 : decode y6_takeSums.2.1 3 = .ok (.aload_n 1, 1) := by decide +kernel
theorem d6_takeSums_4 : decode y6_takeSums.2.1 4 = .ok (.getfield 107, 3) := by decide +kernel
theorem d6_takeSums_7 : decode y6_takeSums.2.1 7 = .ok (.iadd, 1) := by decide +kernel
theorem d6_takeSums_8 : decode y6_takeSums.2.1 8 = .ok (.imul, 1) := by decide +kernel
theorem d6_takeSums_9 : decode y6_takeSums.2.1 9 = .ok (.iconst 0, 1) := by decide +kernel
theorem d6_takeSums_10 : decode y6_takeSums.2.1 10 = .ok (.iadd, 1) := by decide +kernel
theorem d6_takeSums_11 : decode y6_takeSums.2.1 11 = .ok (.istore_n 3, 1) := by decide +kernel
theorem d6_takeSums_12 : decode y6_takeSums.2.1 12 = .ok (.iconst 1, 1) := by decide +kernel
theorem d6_takeSums_13 : decode y6_takeSums.2.1 13 = .ok (.aload_n 1, 1) := by decide +kernel
theorem d6_takeSums_14 : decode y6_takeSums.2.1 14 = .ok (.getfield 107, 3) := by decide +kernel
theorem d6_takeSums_17 : decode y6_takeSums.2.1 17 = .ok (.iadd, 1) := by decide +kernel
theorem d6_takeSums_18 : decode y6_takeSums.2.1 18 = .ok (.istore 4, 2) := by decide +kernel
theorem d6_takeSums_20 : decode y6_takeSums.2.1 20 = .ok (.iconst 0, 1) := by decide +kernel
theorem d6_takeSums_21 : decode y6_takeSums.2.1 21 = .ok (.istore 5, 2) := by decide +kernel
theorem d6_takeSums_23 : decode y6_takeSums.2.1 23 = .ok (.iload 5, 2) := by decide +kernel
theorem d6_takeSums_25 : decode y6_takeSums.2.1 25 = .ok (.bipush 100, 2) := by decide +kernel
theorem d6_takeSums_27 : decode y6_takeSums.2.1 27 = .ok (.if_icmp .ge 91, 3) := by decide +kernel
theorem d6_takeSums_30 : decode y6_takeSums.2.1 30 = .ok (.iload 5, 2) := by decide +kernel
theorem d6_takeSums_32 : decode y6_takeSums.2.1 32 = .ok (.bipush 10, 2) := by decide +kernel
theorem d6_takeSums_34 : decode y6_takeSums.2.1 34 = .ok (.idiv, 1) := by decide +kernel
theorem d6_takeSums_35 : decode y6_takeSums.2.1 35 = .ok (.iconst 1, 1) := by decide +kernel
theorem d6_takeSums_36 : decode y6_takeSums.2.1 36 = .ok (.aload_n 1, 1) := by decide +kernel
theorem d6_takeSums_37 : decode y6_takeSums.2.1 37 = .ok (.getfield 110, 3) := by decide +kernel
theorem d6_takeSums_40 : decode y6_takeSums.2.1 40 = .ok (.iadd, 1) := by decide +kernel
theorem d6_takeSums_41 : decode y6_takeSums.2.1 41 = .ok (.if_icmp .ne 7, 3) := by decide +kernel
theorem d6_takeSums_44 : decode y6_takeSums.2.1 44 = .ok (.iload_n 3, 1) := by decide +kernel
theorem d6_takeSums_45 : decode y6_takeSums.2.1 45 = .ok (.goto 5, 3) := by decide +kernel
theorem d6_takeSums_48 : decode y6_takeSums.2.1 48 = .ok (.iload 4, 2) := by decide +kernel
theorem d6_takeSums_50 : decode y6_takeSums.2.1 50 = .ok (.istore 6, 2) := by decide +kernel
theorem d6_takeSums_52 : decode y6_takeSums.2.1 52 = .ok (.aload_n 0, 1) := by decide +kernel
theorem d6_takeSums_53 : decode y6_takeSums.2.1 53 = .ok (.getfield 37, 3) := by decide +kernel
theorem d6_takeSums_56 : decode y6_takeSums.2.1 56 = .ok (.aload_n 2, 1) := by decide +kernel
theorem d6_takeSums_57 : decode y6_takeSums.2.1 57 = .ok (.iload 5, 2) := by decide +kernel
theorem d6_takeSums_59 : decode y6_takeSums.2.1 59 = .ok (.invokestatic 82, 3) := by decide +kernel
theorem d6_takeSums_62 : decode y6_takeSums.2.1 62 = .ok (.ifCond .eq 50, 3) := by decide +kernel
theorem d6_takeSums_65 : decode y6_takeSums.2.1 65 = .ok (.aload_n 0, 1) := by decide +kernel
theorem d6_takeSums_66 : decode y6_takeSums.2.1 66 = .ok (.getfield 40, 3) := by decide +kernel
theorem d6_takeSums_69 : decode y6_takeSums.2.1 69 = .ok (.aload_n 2, 1) := by decide +kernel
theorem d6_takeSums_70 : decode y6_takeSums.2.1 70 = .ok (.iload 6, 2) := by decide +kernel
theorem d6_takeSums_72 : decode y6_takeSums.2.1 72 = .ok (.invokestatic 82, 3) := by decide +kernel
theorem d6_takeSums_75 : decode y6_takeSums.2.1 75 = .ok (.ifCond .eq 37, 3) := by decide +kernel
theorem d6_takeSums_78 : decode y6_takeSums.2.1 78 = .ok (.aload_n 0, 1) := by decide +kernel
theorem d6_takeSums_79 : decode y6_takeSums.2.1 79 = .ok (.getfield 33, 3) := by decide +kernel
theorem d6_takeSums_82 : decode y6_takeSums.2.1 82 = .ok (.aload_n 1, 1) := by decide +kernel
theorem d6_takeSums_83 : decode y6_takeSums.2.1 83 = .ok (.aload_n 0, 1) := by decide +kernel
theorem d6_takeSums_84 : decode y6_takeSums.2.1 84 = .ok (.getfield 37, 3) := by decide +kernel
theorem d6_takeSums_87 : decode y6_takeSums.2.1 87 = .ok (.aload_n 0, 1) := by decide +kernel
theorem d6_takeSums_88 : decode y6_takeSums.2.1 88 = .ok (.getfield 40, 3) := by decide +kernel
theorem d6_takeSums_91 : decode y6_takeSums.2.1 91 = .ok (.invokevirtual 113, 3) := by decide +kernel
theorem d6_takeSums_94 : decode y6_takeSums.2.1 94 = .ok (.ifCond .eq 18, 3) := by decide +kernel
theorem d6_takeSums_97 : decode y6_takeSums.2.1 97 = .ok (.aload_n 0, 1) := by decide +kernel
theorem d6_takeSums_98 : decode y6_takeSums.2.1 98 = .ok (.bipush 100, 2) := by decide +kernel
theorem d6_takeSums_100 : decode y6_takeSums.2.1 100 = .ok (.bipush 100, 2) := by decide +kernel
theorem d6_takeSums_102 : decode y6_takeSums.2.1 102 = .ok (.iload 5, 2) := by decide +kernel
theorem d6_takeSums_104 : decode y6_takeSums.2.1 104 = .ok (.imul, 1) := by decide +kernel
theorem d6_takeSums_105 : decode y6_takeSums.2.1 105 = .ok (.iadd, 1) := by decide +kernel
theorem d6_takeSums_106 : decode y6_takeSums.2.1 106 = .ok (.iload 6, 2) := by decide +kernel
theorem d6_takeSums_108 : decode y6_takeSums.2.1 108 = .ok (.iadd, 1) := by decide +kernel
theorem d6_takeSums_109 : decode y6_takeSums.2.1 109 = .ok (.invokevirtual 78, 3) := by decide +kernel
theorem d6_takeSums_112 : decode y6_takeSums.2.1 112 = .ok (.iinc 5 1, 3) := by decide +kernel
theorem d6_takeSums_115 : decode y6_takeSums.2.1 115 = .ok (.goto (-92), 3) := by decide +kernel
theorem d6_takeSums_118 : decode y6_takeSums.2.1 118 = .ok (.return_, 1) := by decide +kernel
theorem d7_becomeSum_0 : decode y7_becomeSum.2.1 0 = .ok (.iconst 1, 1) := by decide +kernel
theorem d7_becomeSum_1 : decode y7_becomeSum.2.1 1 = .ok (.aload_n 1, 1) := by decide +kernel
theorem d7_becomeSum_2 : decode y7_becomeSum.2.1 2 = .ok (.getfield 32, 3) := by decide +kernel
theorem d7_becomeSum_5 : decode y7_becomeSum.2.1 5 = .ok (.iadd, 1) := by decide +kernel
theorem d7_becomeSum_6 : decode y7_becomeSum.2.1 6 = .ok (.istore 4, 2) := by decide +kernel
theorem d7_becomeSum_8 : decode y7_becomeSum.2.1 8 = .ok (.iconst 1, 1) := by decide +kernel
theorem d7_becomeSum_9 : decode y7_becomeSum.2.1 9 = .ok (.aload_n 1, 1) := by decide +kernel
theorem d7_becomeSum_10 : decode y7_becomeSum.2.1 10 = .ok (.getfield 47, 3) := by decide +kernel
theorem d7_becomeSum_13 : decode y7_becomeSum.2.1 13 = .ok (.iadd, 1) := by decide +kernel
theorem d7_becomeSum_14 : decode y7_becomeSum.2.1 14 = .ok (.istore 5, 2) := by decide +kernel
theorem d7_becomeSum_16 : decode y7_becomeSum.2.1 16 = .ok (.iload 4, 2) := by decide +kernel
theorem d7_becomeSum_18 : decode y7_becomeSum.2.1 18 = .ok (.iload 5, 2) := by decide +kernel
theorem d7_becomeSum_20 : decode y7_becomeSum.2.1 20 = .ok (.if_icmp .ne 5, 3) := by decide +kernel
theorem d7_becomeSum_23 : decode y7_becomeSum.2.1 23 = .ok (.iconst 0, 1) := by decide +kernel
theorem d7_becomeSum_24 : decode y7_becomeSum.2.1 24 = .ok (.ireturn, 1) := by decide +kernel
theorem d7_becomeSum_25 : decode y7_becomeSum.2.1 25 = .ok (.aload_n 2, 1) := by decide +kernel
theorem d7_becomeSum_26 : decode y7_becomeSum.2.1 26 = .ok (.getfield 9, 3) := by decide +kernel
theorem d7_becomeSum_29 : decode y7_becomeSum.2.1 29 = .ok (.iload 4, 2) := by decide +kernel
theorem d7_becomeSum_31 : decode y7_becomeSum.2.1 31 = .ok (.if_icmp .ne 48, 3) := by decide +kernel
theorem d7_becomeSum_34 : decode y7_becomeSum.2.1 34 = .ok (.aload_n 2, 1) := by decide +kernel
theorem d7_becomeSum_35 : decode y7_becomeSum.2.1 35 = .ok (.getfield 15, 3) := by decide +kernel
theorem d7_becomeSum_38 : decode y7_becomeSum.2.1 38 = .ok (.iload 5, 2) := by decide +kernel
theorem d7_becomeSum_40 : decode y7_becomeSum.2.1 40 = .ok (.if_icmp .eq 39, 3) := by decide +kernel
theorem d7_becomeSum_43 : decode y7_becomeSum.2.1 43 = .ok (.aload_n 3, 1) := by decide +kernel
theorem d7_becomeSum_44 : decode y7_becomeSum.2.1 44 = .ok (.getfield 9, 3) := by decide +kernel
theorem d7_becomeSum_47 : decode y7_becomeSum.2.1 47 = .ok (.iload 5, 2) := by decide +kernel
theorem d7_becomeSum_49 : decode y7_becomeSum.2.1 49 = .ok (.if_icmp .ne 30, 3) := by decide +kernel
theorem d7_becomeSum_52 : decode y7_becomeSum.2.1 52 = .ok (.aload_n 3, 1) := by decide +kernel
theorem d7_becomeSum_53 : decode y7_becomeSum.2.1 53 = .ok (.getfield 15, 3) := by decide +kernel
theorem d7_becomeSum_56 : decode y7_becomeSum.2.1 56 = .ok (.ifCond .ne 23, 3) := by decide +kernel
theorem d7_becomeSum_59 : decode y7_becomeSum.2.1 59 = .ok (.aload_n 0, 1) := by decide +kernel
theorem d7_becomeSum_60 : decode y7_becomeSum.2.1 60 = .ok (.iload 4, 2) := by decide +kernel
theorem d7_becomeSum_62 : decode y7_becomeSum.2.1 62 = .ok (.aload_n 2, 1) := by decide +kernel
theorem d7_becomeSum_63 : decode y7_becomeSum.2.1 63 = .ok (.getfield 15, 3) := by decide +kernel
theorem d7_becomeSum_66 : decode y7_becomeSum.2.1 66 = .ok (.aload_n 2, 1) := by decide +kernel
theorem d7_becomeSum_67 : decode y7_becomeSum.2.1 67 = .ok (.getfield 18, 3) := by decide +kernel
theorem d7_becomeSum_70 : decode y7_becomeSum.2.1 70 = .ok (.aload_n 3, 1) := by decide +kernel
theorem d7_becomeSum_71 : decode y7_becomeSum.2.1 71 = .ok (.getfield 18, 3) := by decide +kernel
theorem d7_becomeSum_74 : decode y7_becomeSum.2.1 74 = .ok (.ladd, 1) := by decide +kernel
theorem d7_becomeSum_75 : decode y7_becomeSum.2.1 75 = .ok (.invokevirtual 26, 3) := by decide +kernel
theorem d7_becomeSum_78 : decode y7_becomeSum.2.1 78 = .ok (.ireturn, 1) := by decide +kernel
theorem d7_becomeSum_79 : decode y7_becomeSum.2.1 79 = .ok (.aload_n 2, 1) := by decide +kernel
theorem d7_becomeSum_80 : decode y7_becomeSum.2.1 80 = .ok (.getfield 15, 3) := by decide +kernel
theorem d7_becomeSum_83 : decode y7_becomeSum.2.1 83 = .ok (.iload 4, 2) := by decide +kernel
theorem d7_becomeSum_85 : decode y7_becomeSum.2.1 85 = .ok (.if_icmp .ne 48, 3) := by decide +kernel
theorem d7_becomeSum_88 : decode y7_becomeSum.2.1 88 = .ok (.aload_n 2, 1) := by decide +kernel
theorem d7_becomeSum_89 : decode y7_becomeSum.2.1 89 = .ok (.getfield 9, 3) := by decide +kernel
theorem d7_becomeSum_92 : decode y7_becomeSum.2.1 92 = .ok (.iload 5, 2) := by decide +kernel
theorem d7_becomeSum_94 : decode y7_becomeSum.2.1 94 = .ok (.if_icmp .eq 39, 3) := by decide +kernel
theorem d7_becomeSum_97 : decode y7_becomeSum.2.1 97 = .ok (.aload_n 3, 1) := by decide +kernel
theorem d7_becomeSum_98 : decode y7_becomeSum.2.1 98 = .ok (.getfield 9, 3) := by decide +kernel
theorem d7_becomeSum_101 : decode y7_becomeSum.2.1 101 = .ok (.ifCond .ne 32, 3) := by decide +kernel
theorem d7_becomeSum_104 : decode y7_becomeSum.2.1 104 = .ok (.aload_n 3, 1) := by decide +kernel
theorem d7_becomeSum_105 : decode y7_becomeSum.2.1 105 = .ok (.getfield 15, 3) := by decide +kernel
theorem d7_becomeSum_108 : decode y7_becomeSum.2.1 108 = .ok (.iload 5, 2) := by decide +kernel
theorem d7_becomeSum_110 : decode y7_becomeSum.2.1 110 = .ok (.if_icmp .ne 23, 3) := by decide +kernel
theorem d7_becomeSum_113 : decode y7_becomeSum.2.1 113 = .ok (.aload_n 0, 1) := by decide +kernel
theorem d7_becomeSum_114 : decode y7_becomeSum.2.1 114 = .ok (.aload_n 2, 1) := by decide +kernel
theorem d7_becomeSum_115 : decode y7_becomeSum.2.1 115 = .ok (.getfield 9, 3) := by decide +kernel
theorem d7_becomeSum_118 : decode y7_becomeSum.2.1 118 = .ok (.iload 4, 2) := by decide +kernel
theorem d7_becomeSum_120 : decode y7_becomeSum.2.1 120 = .ok (.aload_n 2, 1) := by decide +kernel
theorem d7_becomeSum_121 : decode y7_becomeSum.2.1 121 = .ok (.getfield 18, 3) := by decide +kernel
theorem d7_becomeSum_124 : decode y7_becomeSum.2.1 124 = .ok (.aload_n 3, 1) := by decide +kernel
theorem d7_becomeSum_125 : decode y7_becomeSum.2.1 125 = .ok (.getfield 18, 3) := by decide +kernel
theorem d7_becomeSum_128 : decode y7_becomeSum.2.1 128 = .ok (.ladd, 1) := by decide +kernel
theorem d7_becomeSum_129 : decode y7_becomeSum.2.1 129 = .ok (.invokevirtual 26, 3) := by decide +kernel
theorem d7_becomeSum_132 : decode y7_becomeSum.2.1 132 = .ok (.ireturn, 1) := by decide +kernel
theorem d7_becomeSum_133 : decode y7_becomeSum.2.1 133 = .ok (.iconst 0, 1) := by decide +kernel
theorem d7_becomeSum_134 : decode y7_becomeSum.2.1 134 = .ok (.ireturn, 1) := by decide +kernel
theorem d2_jumpsBy_0 : decode y2_jumpsBy.2.1 0 = .ok (.aload_n 0, 1) := by decide +kernel
theorem d2_jumpsBy_1 : decode y2_jumpsBy.2.1 1 = .ok (.getfield 30, 3) := by decide +kernel
theorem d2_jumpsBy_4 : decode y2_jumpsBy.2.1 4 = .ok (.bipush 13, 2) := by decide +kernel
theorem d2_jumpsBy_6 : decode y2_jumpsBy.2.1 6 = .ok (.if_icmp .eq 17, 3) := by decide +kernel
theorem d2_jumpsBy_9 : decode y2_jumpsBy.2.1 9 = .ok (.aload_n 0, 1) := by decide +kernel
theorem d2_jumpsBy_10 : decode y2_jumpsBy.2.1 10 = .ok (.getfield 30, 3) := by decide +kernel
theorem d2_jumpsBy_13 : decode y2_jumpsBy.2.1 13 = .ok (.bipush 14, 2) := by decide +kernel
theorem d2_jumpsBy_15 : decode y2_jumpsBy.2.1 15 = .ok (.if_icmp .lt 12, 3) := by decide +kernel
theorem d2_jumpsBy_18 : decode y2_jumpsBy.2.1 18 = .ok (.iload_n 1, 1) := by decide +kernel
theorem d2_jumpsBy_19 : decode y2_jumpsBy.2.1 19 = .ok (.iconst 1, 1) := by decide +kernel
theorem d2_jumpsBy_20 : decode y2_jumpsBy.2.1 20 = .ok (.if_icmp .ne 7, 3) := by decide +kernel
theorem d2_jumpsBy_23 : decode y2_jumpsBy.2.1 23 = .ok (.iconst 1, 1) := by decide +kernel
theorem d2_jumpsBy_24 : decode y2_jumpsBy.2.1 24 = .ok (.goto 4, 3) := by decide +kernel
theorem d2_jumpsBy_27 : decode y2_jumpsBy.2.1 27 = .ok (.iconst 0, 1) := by decide +kernel
theorem d2_jumpsBy_28 : decode y2_jumpsBy.2.1 28 = .ok (.ireturn, 1) := by decide +kernel
