theorem d11_place_0 : decode y11_place.2.1 0 = .ok (.aload_n 0, 1) := by decide +kernel
theorem d11_place_1 : decode y11_place.2.1 1 = .ok (.getfield 28, 3) := by decide +kernel
theorem d11_place_4 : decode y11_place.2.1 4 = .ok (.ireturn, 1) := by decide +kernel
theorem d11_receive_0 : decode y11_receive.2.1 0 = .ok (.iload_n 3, 1) := by decide +kernel
theorem d11_receive_1 : decode y11_receive.2.1 1 = .ok (.iconst 1, 1) := by decide +kernel
theorem d11_receive_2 : decode y11_receive.2.1 2 = .ok (.if_icmp .lt 9, 3) := by decide +kernel
theorem d11_receive_5 : decode y11_receive.2.1 5 = .ok (.iload_n 3, 1) := by decide +kernel
theorem d11_receive_6 : decode y11_receive.2.1 6 = .ok (.bipush 8, 2) := by decide +kernel
theorem d11_receive_8 : decode y11_receive.2.1 8 = .ok (.if_icmp .le 5, 3) := by decide +kernel
theorem d11_receive_11 : decode y11_receive.2.1 11 = .ok (.iconst (-1), 1) := by decide +kernel
theorem d11_receive_12 : decode y11_receive.2.1 12 = .ok (.ireturn, 1) := by decide +kernel
theorem d11_receive_13 : decode y11_receive.2.1 13 = .ok (.aload_n 0, 1) := by decide +kernel
theorem d11_receive_14 : decode y11_receive.2.1 14 = .ok (.getfield 269, 3) := by decide +kernel
theorem d11_receive_17 : decode y11_receive.2.1 17 = .ok (.iload_n 3, 1) := by decide +kernel
theorem d11_receive_18 : decode y11_receive.2.1 18 = .ok (.iadd, 1) := by decide +kernel
theorem d11_receive_19 : decode y11_receive.2.1 19 = .ok (.sipush 1024, 3) := by decide +kernel
theorem d11_receive_22 : decode y11_receive.2.1 22 = .ok (.if_icmp .le 6, 3) := by decide +kernel
theorem d11_receive_25 : decode y11_receive.2.1 25 = .ok (.bipush (-3), 2) := by decide +kernel
theorem d11_receive_27 : decode y11_receive.2.1 27 = .ok (.ireturn, 1) := by decide +kernel
theorem d11_receive_28 : decode y11_receive.2.1 28 = .ok (.iload_n 3, 1) := by decide +kernel
theorem d11_receive_29 : decode y11_receive.2.1 29 = .ok (.iconst 1, 1) := by decide +kernel
theorem d11_receive_30 : decode y11_receive.2.1 30 = .ok (.isub, 1) := by decide +kernel
theorem d11_receive_31 : decode y11_receive.2.1 31 = .ok (.istore 4, 2) := by decide +kernel
theorem d11_receive_33 : decode y11_receive.2.1 33 = .ok (.iload 4, 2) := by decide +kernel
theorem d11_receive_35 : decode y11_receive.2.1 35 = .ok (.ifCond .lt 37, 3) := by decide +kernel
theorem d11_receive_38 : decode y11_receive.2.1 38 = .ok (.aload_n 0, 1) := by decide +kernel
theorem d11_receive_39 : decode y11_receive.2.1 39 = .ok (.getfield 32, 3) := by decide +kernel
theorem d11_receive_42 : decode y11_receive.2.1 42 = .ok (.aload_n 0, 1) := by decide +kernel
theorem d11_receive_43 : decode y11_receive.2.1 43 = .ok (.getfield 269, 3) := by decide +kernel
theorem d11_receive_46 : decode y11_receive.2.1 46 = .ok (.lload_n 1, 1) := by decide +kernel
theorem d11_receive_47 : decode y11_receive.2.1 47 = .ok (.bipush 8, 2) := by decide +kernel
theorem d11_receive_49 : decode y11_receive.2.1 49 = .ok (.iload 4, 2) := by decide +kernel
theorem d11_receive_51 : decode y11_receive.2.1 51 = .ok (.imul, 1) := by decide +kernel
theorem d11_receive_52 : decode y11_receive.2.1 52 = .ok (.lshr, 1) := by decide +kernel
theorem d11_receive_53 : decode y11_receive.2.1 53 = .ok (.l2i, 1) := by decide +kernel
theorem d11_receive_54 : decode y11_receive.2.1 54 = .ok (.i2b, 1) := by decide +kernel
theorem d11_receive_55 : decode y11_receive.2.1 55 = .ok (.bastore, 1) := by decide +kernel
theorem d11_receive_56 : decode y11_receive.2.1 56 = .ok (.aload_n 0, 1) := by decide +kernel
theorem d11_receive_57 : decode y11_receive.2.1 57 = .ok (.dup, 1) := by decide +kernel
theorem d11_receive_58 : decode y11_receive.2.1 58 = .ok (.getfield 269, 3) := by decide +kernel
theorem d11_receive_61 : decode y11_receive.2.1 61 = .ok (.iconst 1, 1) := by decide +kernel
theorem d11_receive_62 : decode y11_receive.2.1 62 = .ok (.iadd, 1) := by decide +kernel
theorem d11_receive_63 : decode y11_receive.2.1 63 = .ok (.putfield 269, 3) := by decide +kernel
theorem d11_receive_66 : decode y11_receive.2.1 66 = .ok (.iinc 4 (-1), 3) := by decide +kernel
theorem d11_receive_69 : decode y11_receive.2.1 69 = .ok (.goto (-36), 3) := by decide +kernel
theorem d11_receive_72 : decode y11_receive.2.1 72 = .ok (.aload_n 0, 1) := by decide +kernel
theorem d11_receive_73 : decode y11_receive.2.1 73 = .ok (.getfield 269, 3) := by decide +kernel
theorem d11_receive_76 : decode y11_receive.2.1 76 = .ok (.ireturn, 1) := by decide +kernel
theorem d11_drop_0 : decode y11_drop.2.1 0 = .ok (.aload_n 0, 1) := by decide +kernel
theorem d11_drop_1 : decode y11_drop.2.1 1 = .ok (.getfield 269, 3) := by decide +kernel
theorem d11_drop_4 : decode y11_drop.2.1 4 = .ok (.istore_n 1, 1) := by decide +kernel
theorem d11_drop_5 : decode y11_drop.2.1 5 = .ok (.aload_n 0, 1) := by decide +kernel
theorem d11_drop_6 : decode y11_drop.2.1 6 = .ok (.iconst 0, 1) := by decide +kernel
theorem d11_drop_7 : decode y11_drop.2.1 7 = .ok (.putfield 269, 3) := by decide +kernel
theorem d11_drop_10 : decode y11_drop.2.1 10 = .ok (.iload_n 1, 1) := by decide +kernel
theorem d11_drop_11 : decode y11_drop.2.1 11 = .ok (.ireturn, 1) := by decide +kernel
theorem d11_run_0 : decode y11_run.2.1 0 = .ok (.aload_n 0, 1) := by decide +kernel
theorem d11_run_1 : decode y11_run.2.1 1 = .ok (.invokevirtual 220, 3) := by decide +kernel
theorem d11_run_4 : decode y11_run.2.1 4 = .ok (.ifCond .ge 14, 3) := by decide +kernel
theorem d11_run_7 : decode y11_run.2.1 7 = .ok (.aload_n 0, 1) := by decide +kernel
theorem d11_run_8 : decode y11_run.2.1 8 = .ok (.getfield 269, 3) := by decide +kernel
theorem d11_run_11 : decode y11_run.2.1 11 = .ok (.aload_n 0, 1) := by decide +kernel
theorem d11_run_12 : decode y11_run.2.1 12 = .ok (.getfield 86, 3) := by decide +kernel
theorem d11_run_15 : decode y11_run.2.1 15 = .ok (.if_icmp .ge 5, 3) := by decide +kernel
theorem d11_run_18 : decode y11_run.2.1 18 = .ok (.iconst (-1), 1) := by decide +kernel
theorem d11_run_19 : decode y11_run.2.1 19 = .ok (.ireturn, 1) := by decide +kernel
theorem d11_run_20 : decode y11_run.2.1 20 = .ok (.aload_n 0, 1) := by decide +kernel
theorem d11_run_21 : decode y11_run.2.1 21 = .ok (.iconst 0, 1) := by decide +kernel
theorem d11_run_22 : decode y11_run.2.1 22 = .ok (.putfield 272, 3) := by decide +kernel
theorem d11_run_25 : decode y11_run.2.1 25 = .ok (.aload_n 0, 1) := by decide +kernel
theorem d11_run_26 : decode y11_run.2.1 26 = .ok (.iconst 0, 1) := by decide +kernel
theorem d11_run_27 : decode y11_run.2.1 27 = .ok (.putfield 275, 3) := by decide +kernel
theorem d11_run_30 : decode y11_run.2.1 30 = .ok (.iconst 0, 1) := by decide +kernel
theorem d11_run_31 : decode y11_run.2.1 31 = .ok (.istore_n 1, 1) := by decide +kernel
theorem d11_run_32 : decode y11_run.2.1 32 = .ok (.iload_n 1, 1) := by decide +kernel
theorem d11_run_33 : decode y11_run.2.1 33 = .ok (.bipush 8, 2) := by decide +kernel
theorem d11_run_35 : decode y11_run.2.1 35 = .ok (.if_icmp .ge 28, 3) := by decide +kernel
theorem d11_run_38 : decode y11_run.2.1 38 = .ok (.aload_n 0, 1) := by decide +kernel
theorem d11_run_39 : decode y11_run.2.1 39 = .ok (.getfield 80, 3) := by decide +kernel
theorem d11_run_42 : decode y11_run.2.1 42 = .ok (.iload_n 1, 1) := by decide +kernel
theorem d11_run_43 : decode y11_run.2.1 43 = .ok (.iload_n 1, 1) := by decide +kernel
theorem d11_run_44 : decode y11_run.2.1 44 = .ok (.iconst 1, 1) := by decide +kernel
theorem d11_run_45 : decode y11_run.2.1 45 = .ok (.if_icmp .ne 10, 3) := by decide +kernel
theorem d11_run_48 : decode y11_run.2.1 48 = .ok (.aload_n 0, 1) := by decide +kernel
theorem d11_run_49 : decode y11_run.2.1 49 = .ok (.getfield 269, 3) := by decide +kernel
theorem d11_run_52 : decode y11_run.2.1 52 = .ok (.goto 4, 3) := by decide +kernel
theorem d11_run_55 : decode y11_run.2.1 55 = .ok (.iconst 0, 1) := by decide +kernel
theorem d11_run_56 : decode y11_run.2.1 56 = .ok (.iastore, 1) := by decide +kernel
theorem d11_run_57 : decode y11_run.2.1 57 = .ok (.iinc 1 1, 3) := by decide +kernel
theorem d11_run_60 : decode y11_run.2.1 60 = .ok (.goto (-28), 3) := by decide +kernel
theorem d11_run_63 : decode y11_run.2.1 63 = .ok (.iconst 0, 1) := by decide +kernel
theorem d11_run_64 : decode y11_run.2.1 64 = .ok (.istore_n 1, 1) := by decide +kernel
theorem d11_run_65 : decode y11_run.2.1 65 = .ok (.iload_n 1, 1) := by decide +kernel
theorem d11_run_66 : decode y11_run.2.1 66 = .ok (.bipush 32, 2) := by decide +kernel
theorem d11_run_68 : decode y11_run.2.1 68 = .ok (.if_icmp .ge 16, 3) := by decide +kernel
theorem d11_run_71 : decode y11_run.2.1 71 = .ok (.aload_n 0, 1) := by decide +kernel
theorem d11_run_72 : decode y11_run.2.1 72 = .ok (.getfield 83, 3) := by decide +kernel
theorem d11_run_75 : decode y11_run.2.1 75 = .ok (.iload_n 1, 1) := by decide +kernel
theorem d11_run_76 : decode y11_run.2.1 76 = .ok (.iconst 0, 1) := by decide +kernel
theorem d11_run_77 : decode y11_run.2.1 77 = .ok (.iastore, 1) := by decide +kernel
theorem d11_run_78 : decode y11_run.2.1 78 = .ok (.iinc 1 1, 3) := by decide +kernel
theorem d11_run_81 : decode y11_run.2.1 81 = .ok (.goto (-16), 3) := by decide +kernel
theorem d11_run_84 : decode y11_run.2.1 84 = .ok (.iconst 0, 1) := by decide +kernel
theorem d11_run_85 : decode y11_run.2.1 85 = .ok (.istore_n 1, 1) := by decide +kernel
theorem d11_run_86 : decode y11_run.2.1 86 = .ok (.iconst 0, 1) := by decide +kernel
theorem d11_run_87 : decode y11_run.2.1 87 = .ok (.istore_n 2, 1) := by decide +kernel
theorem d11_run_88 : decode y11_run.2.1 88 = .ok (.iload_n 2, 1) := by decide +kernel
theorem d11_run_89 : decode y11_run.2.1 89 = .ok (.ifCond .ne 36, 3) := by decide +kernel
theorem d11_run_92 : decode y11_run.2.1 92 = .ok (.aload_n 0, 1) := by decide +kernel
theorem d11_run_93 : decode y11_run.2.1 93 = .ok (.getfield 7, 3) := by decide +kernel
theorem d11_run_96 : decode y11_run.2.1 96 = .ok (.iload_n 1, 1) := by decide +kernel
theorem d11_run_97 : decode y11_run.2.1 97 = .ok (.iaload, 1) := by decide +kernel
theorem d11_run_98 : decode y11_run.2.1 98 = .ok (.ifCond .eq 27, 3) := by decide +kernel
theorem d11_run_101 : decode y11_run.2.1 101 = .ok (.aload_n 0, 1) := by decide +kernel
theorem d11_run_102 : decode y11_run.2.1 102 = .ok (.dup, 1) := by decide +kernel
theorem d11_run_103 : decode y11_run.2.1 103 = .ok (.getfield 275, 3) := by decide +kernel
theorem d11_run_106 : decode y11_run.2.1 106 = .ok (.iconst 1, 1) := by decide +kernel
theorem d11_run_107 : decode y11_run.2.1 107 = .ok (.iadd, 1) := by decide +kernel
theorem d11_run_108 : decode y11_run.2.1 108 = .ok (.putfield 275, 3) := by decide +kernel
theorem d11_run_111 : decode y11_run.2.1 111 = .ok (.aload_n 0, 1) := by decide +kernel
theorem d11_run_112 : decode y11_run.2.1 112 = .ok (.iload_n 1, 1) := by decide +kernel
theorem d11_run_113 : decode y11_run.2.1 113 = .ok (.invokevirtual 278, 3) := by decide +kernel
theorem d11_run_116 : decode y11_run.2.1 116 = .ok (.istore_n 2, 1) := by decide +kernel
theorem d11_run_117 : decode y11_run.2.1 117 = .ok (.aload_n 0, 1) := by decide +kernel
theorem d11_run_118 : decode y11_run.2.1 118 = .ok (.getfield 281, 3) := by decide +kernel
theorem d11_run_121 : decode y11_run.2.1 121 = .ok (.istore_n 1, 1) := by decide +kernel
theorem d11_run_122 : decode y11_run.2.1 122 = .ok (.goto (-34), 3) := by decide +kernel
theorem d11_run_125 : decode y11_run.2.1 125 = .ok (.iload_n 2, 1) := by decide +kernel
theorem d11_run_126 : decode y11_run.2.1 126 = .ok (.ifCond .eq 5, 3) := by decide +kernel
theorem d11_run_129 : decode y11_run.2.1 129 = .ok (.iload_n 2, 1) := by decide +kernel
theorem d11_run_130 : decode y11_run.2.1 130 = .ok (.ireturn, 1) := by decide +kernel
theorem d11_run_131 : decode y11_run.2.1 131 = .ok (.aload_n 0, 1) := by decide +kernel
theorem d11_run_132 : decode y11_run.2.1 132 = .ok (.dup, 1) := by decide +kernel
theorem d11_run_133 : decode y11_run.2.1 133 = .ok (.getfield 275, 3) := by decide +kernel
theorem d11_run_136 : decode y11_run.2.1 136 = .ok (.iconst 1, 1) := by decide +kernel
theorem d11_run_137 : decode y11_run.2.1 137 = .ok (.iadd, 1) := by decide +kernel
theorem d11_run_138 : decode y11_run.2.1 138 = .ok (.putfield 275, 3) := by decide +kernel
theorem d11_run_141 : decode y11_run.2.1 141 = .ok (.aload_n 0, 1) := by decide +kernel
theorem d11_run_142 : decode y11_run.2.1 142 = .ok (.aload_n 0, 1) := by decide +kernel
theorem d11_run_143 : decode y11_run.2.1 143 = .ok (.getfield 80, 3) := by decide +kernel
theorem d11_run_146 : decode y11_run.2.1 146 = .ok (.aload_n 0, 1) := by decide +kernel
theorem d11_run_147 : decode y11_run.2.1 147 = .ok (.getfield 13, 3) := by decide +kernel
theorem d11_run_150 : decode y11_run.2.1 150 = .ok (.iload_n 1, 1) := by decide +kernel
theorem d11_run_151 : decode y11_run.2.1 151 = .ok (.iaload, 1) := by decide +kernel
theorem d11_run_152 : decode y11_run.2.1 152 = .ok (.iaload, 1) := by decide +kernel
theorem d11_run_153 : decode y11_run.2.1 153 = .ok (.putfield 272, 3) := by decide +kernel
theorem d11_run_156 : decode y11_run.2.1 156 = .ok (.iconst 0, 1) := by decide +kernel
theorem d11_run_157 : decode y11_run.2.1 157 = .ok (.ireturn, 1) := by decide +kernel
theorem d11_one_0 : decode y11_one.2.1 0 = .ok (.aload_n 0, 1) := by decide +kernel
theorem d11_one_1 : decode y11_one.2.1 1 = .ok (.iload_n 1, 1) := by decide +kernel
theorem d11_one_2 : decode y11_one.2.1 2 = .ok (.iconst 1, 1) := by decide +kernel
theorem d11_one_3 : decode y11_one.2.1 3 = .ok (.iadd, 1) := by decide +kernel
theorem d11_one_4 : decode y11_one.2.1 4 = .ok (.putfield 281, 3) := by decide +kernel
theorem d11_one_7 : decode y11_one.2.1 7 = .ok (.aload_n 0, 1) := by decide +kernel
theorem d11_one_8 : decode y11_one.2.1 8 = .ok (.getfield 80, 3) := by decide +kernel
theorem d11_one_11 : decode y11_one.2.1 11 = .ok (.aload_n 0, 1) := by decide +kernel
theorem d11_one_12 : decode y11_one.2.1 12 = .ok (.getfield 13, 3) := by decide +kernel
theorem d11_one_15 : decode y11_one.2.1 15 = .ok (.iload_n 1, 1) := by decide +kernel
theorem d11_one_16 : decode y11_one.2.1 16 = .ok (.iaload, 1) := by decide +kernel
theorem d11_one_17 : decode y11_one.2.1 17 = .ok (.iaload, 1) := by decide +kernel
theorem d11_one_18 : decode y11_one.2.1 18 = .ok (.istore_n 2, 1) := by decide +kernel
theorem d11_one_19 : decode y11_one.2.1 19 = .ok (.aload_n 0, 1) := by decide +kernel
theorem d11_one_20 : decode y11_one.2.1 20 = .ok (.getfield 80, 3) := by decide +kernel
theorem d11_one_23 : decode y11_one.2.1 23 = .ok (.aload_n 0, 1) := by decide +kernel
theorem d11_one_24 : decode y11_one.2.1 24 = .ok (.getfield 16, 3) := by decide +kernel
theorem d11_one_27 : decode y11_one.2.1 27 = .ok (.iload_n 1, 1) := by decide +kernel
theorem d11_one_28 : decode y11_one.2.1 28 = .ok (.iaload, 1) := by decide +kernel
theorem d11_one_29 : decode y11_one.2.1 29 = .ok (.iaload, 1) := by decide +kernel
theorem d11_one_30 : decode y11_one.2.1 30 = .ok (.istore_n 3, 1) := by decide +kernel
theorem d11_one_31 : decode y11_one.2.1 31 = .ok (.aload_n 0, 1) := by decide +kernel
theorem d11_one_32 : decode y11_one.2.1 32 = .ok (.getfield 19, 3) := by decide +kernel
theorem d11_one_35 : decode y11_one.2.1 35 = .ok (.iload_n 1, 1) := by decide +kernel
theorem d11_one_36 : decode y11_one.2.1 36 = .ok (.iaload, 1) := by decide +kernel
theorem d11_one_37 : decode y11_one.2.1 37 = .ok (.istore 4, 2) := by decide +kernel
theorem d11_one_39 : decode y11_one.2.1 39 = .ok (.aload_n 0, 1) := by decide +kernel
theorem d11_one_40 : decode y11_one.2.1 40 = .ok (.getfield 7, 3) := by decide +kernel
theorem d11_one_43 : decode y11_one.2.1 43 = .ok (.iload_n 1, 1) := by decide +kernel
theorem d11_one_44 : decode y11_one.2.1 44 = .ok (.iaload, 1) := by decide +kernel
theorem d11_one_45 : decode y11_one.2.1 45 = .ok (.istore 5, 2) := by decide +kernel
theorem d11_one_47 : decode y11_one.2.1 47 = .ok (.iload 5, 2) := by decide +kernel
theorem d11_one_49 : decode y11_one.2.1 49 = .ok (.iconst 2, 1) := by decide +kernel
theorem d11_one_50 : decode y11_one.2.1 50 = .ok (.if_icmp .le 73, 3) := by decide +kernel
theorem d11_one_53 : decode y11_one.2.1 53 = .ok (.iload 5, 2) := by decide +kernel
theorem d11_one_55 : decode y11_one.2.1 55 = .ok (.bipush 6, 2) := by decide +kernel
theorem d11_one_57 : decode y11_one.2.1 57 = .ok (.if_icmp .ge 66, 3) := by decide +kernel
theorem d11_one_60 : decode y11_one.2.1 60 = .ok (.iload 5, 2) := by decide +kernel
theorem d11_one_62 : decode y11_one.2.1 62 = .ok (.iconst 3, 1) := by decide +kernel
theorem d11_one_63 : decode y11_one.2.1 63 = .ok (.if_icmp .ne 12, 3) := by decide +kernel
theorem d11_one_66 : decode y11_one.2.1 66 = .ok (.iload_n 2, 1) := by decide +kernel
theorem d11_one_67 : decode y11_one.2.1 67 = .ok (.i2l, 1) := by decide +kernel
theorem d11_one_68 : decode y11_one.2.1 68 = .ok (.iload 4, 2) := by decide +kernel
theorem d11_one_70 : decode y11_one.2.1 70 = .ok (.i2l, 1) := by decide +kernel
theorem d11_one_71 : decode y11_one.2.1 71 = .ok (.ladd, 1) := by decide +kernel
theorem d11_one_72 : decode y11_one.2.1 72 = .ok (.goto 22, 3) := by decide +kernel
theorem d11_one_75 : decode y11_one.2.1 75 = .ok (.iload 5, 2) := by decide +kernel
theorem d11_one_77 : decode y11_one.2.1 77 = .ok (.iconst 4, 1) := by decide +kernel
theorem d11_one_78 : decode y11_one.2.1 78 = .ok (.if_icmp .ne 11, 3) := by decide +kernel
theorem d11_one_81 : decode y11_one.2.1 81 = .ok (.iload_n 2, 1) := by decide +kernel
theorem d11_one_82 : decode y11_one.2.1 82 = .ok (.i2l, 1) := by decide +kernel
theorem d11_one_83 : decode y11_one.2.1 83 = .ok (.iload_n 3, 1) := by decide +kernel
theorem d11_one_84 : decode y11_one.2.1 84 = .ok (.i2l, 1) := by decide +kernel
theorem d11_one_85 : decode y11_one.2.1 85 = .ok (.ladd, 1) := by decide +kernel
theorem d11_one_86 : decode y11_one.2.1 86 = .ok (.goto 8, 3) := by decide +kernel
theorem d11_one_89 : decode y11_one.2.1 89 = .ok (.iload_n 2, 1) := by decide +kernel
theorem d11_one_90 : decode y11_one.2.1 90 = .ok (.i2l, 1) := by decide +kernel
theorem d11_one_91 : decode y11_one.2.1 91 = .ok (.iload_n 3, 1) := by decide +kernel
theorem d11_one_92 : decode y11_one.2.1 92 = .ok (.i2l, 1) := by decide +kernel
theorem d11_one_93 : decode y11_one.2.1 93 = .ok (.lsub, 1) := by decide +kernel
theorem d11_one_94 : decode y11_one.2.1 94 = .ok (.lstore 6, 2) := by decide +kernel
theorem d11_one_96 : decode y11_one.2.1 96 = .ok (.lload 6, 2) := by decide +kernel
theorem d11_one_98 : decode y11_one.2.1 98 = .ok (.invokestatic 96, 3) := by decide +kernel
theorem d11_one_101 : decode y11_one.2.1 101 = .ok (.ifCond .ne 5, 3) := by decide +kernel
theorem d11_one_104 : decode y11_one.2.1 104 = .ok (.iconst 3, 1) := by decide +kernel
theorem d11_one_105 : decode y11_one.2.1 105 = .ok (.ireturn, 1) := by decide +kernel
theorem d11_one_106 : decode y11_one.2.1 106 = .ok (.aload_n 0, 1) := by decide +kernel
theorem d11_one_107 : decode y11_one.2.1 107 = .ok (.getfield 80, 3) := by decide +kernel
theorem d11_one_110 : decode y11_one.2.1 110 = .ok (.aload_n 0, 1) := by decide +kernel
theorem d11_one_111 : decode y11_one.2.1 111 = .ok (.getfield 13, 3) := by decide +kernel
theorem d11_one_114 : decode y11_one.2.1 114 = .ok (.iload_n 1, 1) := by decide +kernel
theorem d11_one_115 : decode y11_one.2.1 115 = .ok (.iaload, 1) := by decide +kernel
theorem d11_one_116 : decode y11_one.2.1 116 = .ok (.lload 6, 2) := by decide +kernel
theorem d11_one_118 : decode y11_one.2.1 118 = .ok (.l2i, 1) := by decide +kernel
theorem d11_one_119 : decode y11_one.2.1 119 = .ok (.iastore, 1) := by decide +kernel
theorem d11_one_120 : decode y11_one.2.1 120 = .ok (.goto 324, 3) := by decide +kernel
theorem d11_one_123 : decode y11_one.2.1 123 = .ok (.iload 5, 2) := by decide +kernel
theorem d11_one_125 : decode y11_one.2.1 125 = .ok (.bipush 7, 2) := by decide +kernel
theorem d11_one_127 : decode y11_one.2.1 127 = .ok (.if_icmp .le 106, 3) := by decide +kernel
theorem d11_one_130 : decode y11_one.2.1 130 = .ok (.iload 5, 2) := by decide +kernel
theorem d11_one_132 : decode y11_one.2.1 132 = .ok (.bipush 11, 2) := by decide +kernel
theorem d11_one_134 : decode y11_one.2.1 134 = .ok (.if_icmp .ge 99, 3) := by decide +kernel
theorem d11_one_137 : decode y11_one.2.1 137 = .ok (.iload_n 3, 1) := by decide +kernel
theorem d11_one_138 : decode y11_one.2.1 138 = .ok (.i2l, 1) := by decide +kernel
theorem d11_one_139 : decode y11_one.2.1 139 = .ok (.iload 4, 2) := by decide +kernel
theorem d11_one_141 : decode y11_one.2.1 141 = .ok (.i2l, 1) := by decide +kernel
theorem d11_one_142 : decode y11_one.2.1 142 = .ok (.ladd, 1) := by decide +kernel
theorem d11_one_143 : decode y11_one.2.1 143 = .ok (.lstore 6, 2) := by decide +kernel
theorem d11_one_145 : decode y11_one.2.1 145 = .ok (.lload 6, 2) := by decide +kernel
theorem d11_one_147 : decode y11_one.2.1 147 = .ok (.lconst 0, 1) := by decide +kernel
theorem d11_one_148 : decode y11_one.2.1 148 = .ok (.lcmp, 1) := by decide +kernel
theorem d11_one_149 : decode y11_one.2.1 149 = .ok (.ifCond .lt 21, 3) := by decide +kernel
theorem d11_one_152 : decode y11_one.2.1 152 = .ok (.lload 6, 2) := by decide +kernel
theorem d11_one_154 : decode y11_one.2.1 154 = .ok (.iload 5, 2) := by decide +kernel
theorem d11_one_156 : decode y11_one.2.1 156 = .ok (.invokestatic 179, 3) := by decide +kernel
theorem d11_one_159 : decode y11_one.2.1 159 = .ok (.i2l, 1) := by decide +kernel
theorem d11_one_160 : decode y11_one.2.1 160 = .ok (.ladd, 1) := by decide +kernel
theorem d11_one_161 : decode y11_one.2.1 161 = .ok (.aload_n 0, 1) := by decide +kernel
theorem d11_one_162 : decode y11_one.2.1 162 = .ok (.getfield 269, 3) := by decide +kernel
theorem d11_one_165 : decode y11_one.2.1 165 = .ok (.i2l, 1) := by decide +kernel
theorem d11_one_166 : decode y11_one.2.1 166 = .ok (.lcmp, 1) := by decide +kernel
theorem d11_one_167 : decode y11_one.2.1 167 = .ok (.ifCond .le 5, 3) := by decide +kernel
theorem d11_one_170 : decode y11_one.2.1 170 = .ok (.iconst 1, 1) := by decide +kernel
theorem d11_one_171 : decode y11_one.2.1 171 = .ok (.ireturn, 1) := by decide +kernel
theorem d11_one_172 : decode y11_one.2.1 172 = .ok (.iconst 0, 1) := by decide +kernel
theorem d11_one_173 : decode y11_one.2.1 173 = .ok (.istore 8, 2) := by decide +kernel
theorem d11_one_175 : decode y11_one.2.1 175 = .ok (.iconst 0, 1) := by decide +kernel
theorem d11_one_176 : decode y11_one.2.1 176 = .ok (.istore 9, 2) := by decide +kernel
theorem d11_one_178 : decode y11_one.2.1 178 = .ok (.iload 9, 2) := by decide +kernel
theorem d11_one_180 : decode y11_one.2.1 180 = .ok (.iload 5, 2) := by decide +kernel
theorem d11_one_182 : decode y11_one.2.1 182 = .ok (.invokestatic 179, 3) := by decide +kernel
theorem d11_one_185 : decode y11_one.2.1 185 = .ok (.if_icmp .ge 32, 3) := by decide +kernel
theorem d11_one_188 : decode y11_one.2.1 188 = .ok (.iload 8, 2) := by decide +kernel
theorem d11_one_190 : decode y11_one.2.1 190 = .ok (.bipush 8, 2) := by decide +kernel
theorem d11_one_192 : decode y11_one.2.1 192 = .ok (.ishl, 1) := by decide +kernel
theorem d11_one_193 : decode y11_one.2.1 193 = .ok (.aload_n 0, 1) := by decide +kernel
theorem d11_one_194 : decode y11_one.2.1 194 = .ok (.getfield 32, 3) := by decide +kernel
theorem d11_one_197 : decode y11_one.2.1 197 = .ok (.lload 6, 2) := by decide +kernel
theorem d11_one_199 : decode y11_one.2.1 199 = .ok (.l2i, 1) := by decide +kernel
theorem d11_one_200 : decode y11_one.2.1 200 = .ok (.iload 9, 2) := by decide +kernel
theorem d11_one_202 : decode y11_one.2.1 202 = .ok (.iadd, 1) := by decide +kernel
theorem d11_one_203 : decode y11_one.2.1 203 = .ok (.baload, 1) := by decide +kernel
theorem d11_one_204 : decode y11_one.2.1 204 = .ok (.sipush 255, 3) := by decide +kernel
theorem d11_one_207 : decode y11_one.2.1 207 = .ok (.iand, 1) := by decide +kernel
theorem d11_one_208 : decode y11_one.2.1 208 = .ok (.ior, 1) := by decide +kernel
theorem d11_one_209 : decode y11_one.2.1 209 = .ok (.istore 8, 2) := by decide +kernel
theorem d11_one_211 : decode y11_one.2.1 211 = .ok (.iinc 9 1, 3) := by decide +kernel
theorem d11_one_214 : decode y11_one.2.1 214 = .ok (.goto (-36), 3) := by decide +kernel
theorem d11_one_217 : decode y11_one.2.1 217 = .ok (.aload_n 0, 1) := by decide +kernel
theorem d11_one_218 : decode y11_one.2.1 218 = .ok (.getfield 80, 3) := by decide +kernel
theorem d11_one_221 : decode y11_one.2.1 221 = .ok (.aload_n 0, 1) := by decide +kernel
theorem d11_one_222 : decode y11_one.2.1 222 = .ok (.getfield 13, 3) := by decide +kernel
theorem d11_one_225 : decode y11_one.2.1 225 = .ok (.iload_n 1, 1) := by decide +kernel
theorem d11_one_226 : decode y11_one.2.1 226 = .ok (.iaload, 1) := by decide +kernel
theorem d11_one_227 : decode y11_one.2.1 227 = .ok (.iload 8, 2) := by decide +kernel
theorem d11_one_229 : decode y11_one.2.1 229 = .ok (.iastore, 1) := by decide +kernel
theorem d11_one_230 : decode y11_one.2.1 230 = .ok (.goto 214, 3) := by decide +kernel
theorem d11_one_233 : decode y11_one.2.1 233 = .ok (.iload 5, 2) := by decide +kernel
theorem d11_one_235 : decode y11_one.2.1 235 = .ok (.bipush 11, 2) := by decide +kernel
theorem d11_one_237 : decode y11_one.2.1 237 = .ok (.if_icmp .eq 10, 3) := by decide +kernel
theorem d11_one_240 : decode y11_one.2.1 240 = .ok (.iload 5, 2) := by decide +kernel
theorem d11_one_242 : decode y11_one.2.1 242 = .ok (.bipush 12, 2) := by decide +kernel
theorem d11_one_244 : decode y11_one.2.1 244 = .ok (.if_icmp .ne 74, 3) := by decide +kernel
theorem d11_one_247 : decode y11_one.2.1 247 = .ok (.iload_n 3, 1) := by decide +kernel
theorem d11_one_248 : decode y11_one.2.1 248 = .ok (.i2l, 1) := by decide +kernel
theorem d11_one_249 : decode y11_one.2.1 249 = .ok (.iload 4, 2) := by decide +kernel
theorem d11_one_251 : decode y11_one.2.1 251 = .ok (.i2l, 1) := by decide +kernel
theorem d11_one_252 : decode y11_one.2.1 252 = .ok (.ladd, 1) := by decide +kernel
theorem d11_one_253 : decode y11_one.2.1 253 = .ok (.lstore 6, 2) := by decide +kernel
theorem d11_one_255 : decode y11_one.2.1 255 = .ok (.lload 6, 2) := by decide +kernel
theorem d11_one_257 : decode y11_one.2.1 257 = .ok (.lconst 0, 1) := by decide +kernel
theorem d11_one_258 : decode y11_one.2.1 258 = .ok (.lcmp, 1) := by decide +kernel
theorem d11_one_259 : decode y11_one.2.1 259 = .ok (.ifCond .lt 12, 3) := by decide +kernel
theorem d11_one_262 : decode y11_one.2.1 262 = .ok (.lload 6, 2) := by decide +kernel
theorem d11_one_264 : decode y11_one.2.1 264 = .ok (.ldc2_w 177, 3) := by decide +kernel
theorem d11_one_267 : decode y11_one.2.1 267 = .ok (.lcmp, 1) := by decide +kernel
theorem d11_one_268 : decode y11_one.2.1 268 = .ok (.ifCond .le 5, 3) := by decide +kernel
theorem d11_one_271 : decode y11_one.2.1 271 = .ok (.iconst 2, 1) := by decide +kernel
theorem d11_one_272 : decode y11_one.2.1 272 = .ok (.ireturn, 1) := by decide +kernel
theorem d11_one_273 : decode y11_one.2.1 273 = .ok (.iload 5, 2) := by decide +kernel
theorem d11_one_275 : decode y11_one.2.1 275 = .ok (.bipush 11, 2) := by decide +kernel
theorem d11_one_277 : decode y11_one.2.1 277 = .ok (.if_icmp .ne 25, 3) := by decide +kernel
theorem d11_one_280 : decode y11_one.2.1 280 = .ok (.aload_n 0, 1) := by decide +kernel
theorem d11_one_281 : decode y11_one.2.1 281 = .ok (.getfield 80, 3) := by decide +kernel
theorem d11_one_284 : decode y11_one.2.1 284 = .ok (.aload_n 0, 1) := by decide +kernel
theorem d11_one_285 : decode y11_one.2.1 285 = .ok (.getfield 13, 3) := by decide +kernel
theorem d11_one_288 : decode y11_one.2.1 288 = .ok (.iload_n 1, 1) := by decide +kernel
theorem d11_one_289 : decode y11_one.2.1 289 = .ok (.iaload, 1) := by decide +kernel
theorem d11_one_290 : decode y11_one.2.1 290 = .ok (.aload_n 0, 1) := by decide +kernel
theorem d11_one_291 : decode y11_one.2.1 291 = .ok (.getfield 83, 3) := by decide +kernel
theorem d11_one_294 : decode y11_one.2.1 294 = .ok (.lload 6, 2) := by decide +kernel
theorem d11_one_296 : decode y11_one.2.1 296 = .ok (.l2i, 1) := by decide +kernel
theorem d11_one_297 : decode y11_one.2.1 297 = .ok (.iaload, 1) := by decide +kernel
theorem d11_one_298 : decode y11_one.2.1 298 = .ok (.iastore, 1) := by decide +kernel
theorem d11_one_299 : decode y11_one.2.1 299 = .ok (.goto 16, 3) := by decide +kernel
theorem d11_one_302 : decode y11_one.2.1 302 = .ok (.aload_n 0, 1) := by decide +kernel
theorem d11_one_303 : decode y11_one.2.1 303 = .ok (.getfield 83, 3) := by decide +kernel
theorem d11_one_306 : decode y11_one.2.1 306 = .ok (.lload 6, 2) := by decide +kernel
theorem d11_one_308 : decode y11_one.2.1 308 = .ok (.l2i, 1) := by decide +kernel
theorem d11_one_309 : decode y11_one.2.1 309 = .ok (.iload_n 2, 1) := by decide +kernel
theorem d11_one_310 : decode y11_one.2.1 310 = .ok (.sipush 255, 3) := by decide +kernel
theorem d11_one_313 : decode y11_one.2.1 313 = .ok (.iand, 1) := by decide +kernel
theorem d11_one_314 : decode y11_one.2.1 314 = .ok (.iastore, 1) := by decide +kernel
theorem d11_one_315 : decode y11_one.2.1 315 = .ok (.goto 129, 3) := by decide +kernel
theorem d11_one_318 : decode y11_one.2.1 318 = .ok (.iload 5, 2) := by decide +kernel
theorem d11_one_320 : decode y11_one.2.1 320 = .ok (.bipush 12, 2) := by decide +kernel
theorem d11_one_322 : decode y11_one.2.1 322 = .ok (.if_icmp .le 72, 3) := by decide +kernel
theorem d11_one_325 : decode y11_one.2.1 325 = .ok (.iload 5, 2) := by decide +kernel
theorem d11_one_327 : decode y11_one.2.1 327 = .ok (.bipush 13, 2) := by decide +kernel
theorem d11_one_329 : decode y11_one.2.1 329 = .ok (.if_icmp .eq 40, 3) := by decide +kernel
theorem d11_one_332 : decode y11_one.2.1 332 = .ok (.iload 5, 2) := by decide +kernel
theorem d11_one_334 : decode y11_one.2.1 334 = .ok (.bipush 14, 2) := by decide +kernel
theorem d11_one_336 : decode y11_one.2.1 336 = .ok (.if_icmp .ne 8, 3) := by decide +kernel
theorem d11_one_339 : decode y11_one.2.1 339 = .ok (.iload_n 2, 1) := by decide +kernel
theorem d11_one_340 : decode y11_one.2.1 340 = .ok (.iload_n 3, 1) := by decide +kernel
theorem d11_one_341 : decode y11_one.2.1 341 = .ok (.if_icmp .lt 28, 3) := by decide +kernel
theorem d11_one_344 : decode y11_one.2.1 344 = .ok (.iload 5, 2) := by decide +kernel
theorem d11_one_346 : decode y11_one.2.1 346 = .ok (.bipush 15, 2) := by decide +kernel
theorem d11_one_348 : decode y11_one.2.1 348 = .ok (.if_icmp .ne 9, 3) := by decide +kernel
theorem d11_one_351 : decode y11_one.2.1 351 = .ok (.iload_n 2, 1) := by decide +kernel
theorem d11_one_352 : decode y11_one.2.1 352 = .ok (.iload 4, 2) := by decide +kernel
theorem d11_one_354 : decode y11_one.2.1 354 = .ok (.if_icmp .lt 15, 3) := by decide +kernel
theorem d11_one_357 : decode y11_one.2.1 357 = .ok (.iload 5, 2) := by decide +kernel
theorem d11_one_359 : decode y11_one.2.1 359 = .ok (.bipush 16, 2) := by decide +kernel
theorem d11_one_361 : decode y11_one.2.1 361 = .ok (.if_icmp .ne 12, 3) := by decide +kernel
theorem d11_one_364 : decode y11_one.2.1 364 = .ok (.iload_n 2, 1) := by decide +kernel
theorem d11_one_365 : decode y11_one.2.1 365 = .ok (.iload_n 3, 1) := by decide +kernel
theorem d11_one_366 : decode y11_one.2.1 366 = .ok (.if_icmp .ne 7, 3) := by decide +kernel
theorem d11_one_369 : decode y11_one.2.1 369 = .ok (.iconst 1, 1) := by decide +kernel
theorem d11_one_370 : decode y11_one.2.1 370 = .ok (.goto 4, 3) := by decide +kernel
theorem d11_one_373 : decode y11_one.2.1 373 = .ok (.iconst 0, 1) := by decide +kernel
theorem d11_one_374 : decode y11_one.2.1 374 = .ok (.istore 6, 2) := by decide +kernel
theorem d11_one_376 : decode y11_one.2.1 376 = .ok (.iload 6, 2) := by decide +kernel
theorem d11_one_378 : decode y11_one.2.1 378 = .ok (.ifCond .eq 13, 3) := by decide +kernel
theorem d11_one_381 : decode y11_one.2.1 381 = .ok (.aload_n 0, 1) := by decide +kernel
theorem d11_one_382 : decode y11_one.2.1 382 = .ok (.aload_n 0, 1) := by decide +kernel
theorem d11_one_383 : decode y11_one.2.1 383 = .ok (.getfield 22, 3) := by decide +kernel
theorem d11_one_386 : decode y11_one.2.1 386 = .ok (.iload_n 1, 1) := by decide +kernel
theorem d11_one_387 : decode y11_one.2.1 387 = .ok (.iaload, 1) := by decide +kernel
theorem d11_one_388 : decode y11_one.2.1 388 = .ok (.putfield 281, 3) := by decide +kernel
theorem d11_one_391 : decode y11_one.2.1 391 = .ok (.goto 53, 3) := by decide +kernel
theorem d11_one_394 : decode y11_one.2.1 394 = .ok (.aload_n 0, 1) := by decide +kernel
theorem d11_one_395 : decode y11_one.2.1 395 = .ok (.getfield 80, 3) := by decide +kernel
theorem d11_one_398 : decode y11_one.2.1 398 = .ok (.aload_n 0, 1) := by decide +kernel
theorem d11_one_399 : decode y11_one.2.1 399 = .ok (.getfield 13, 3) := by decide +kernel
theorem d11_one_402 : decode y11_one.2.1 402 = .ok (.iload_n 1, 1) := by decide +kernel
theorem d11_one_403 : decode y11_one.2.1 403 = .ok (.iaload, 1) := by decide +kernel
theorem d11_one_404 : decode y11_one.2.1 404 = .ok (.iload 5, 2) := by decide +kernel
theorem d11_one_406 : decode y11_one.2.1 406 = .ok (.iconst 1, 1) := by decide +kernel
theorem d11_one_407 : decode y11_one.2.1 407 = .ok (.if_icmp .ne 8, 3) := by decide +kernel
theorem d11_one_410 : decode y11_one.2.1 410 = .ok (.iload 4, 2) := by decide +kernel
theorem d11_one_412 : decode y11_one.2.1 412 = .ok (.goto 31, 3) := by decide +kernel
theorem d11_one_415 : decode y11_one.2.1 415 = .ok (.iload 5, 2) := by decide +kernel
theorem d11_one_417 : decode y11_one.2.1 417 = .ok (.iconst 2, 1) := by decide +kernel
theorem d11_one_418 : decode y11_one.2.1 418 = .ok (.if_icmp .ne 7, 3) := by decide +kernel
theorem d11_one_421 : decode y11_one.2.1 421 = .ok (.iload_n 3, 1) := by decide +kernel
theorem d11_one_422 : decode y11_one.2.1 422 = .ok (.goto 21, 3) := by decide +kernel
theorem d11_one_425 : decode y11_one.2.1 425 = .ok (.iload 5, 2) := by decide +kernel
theorem d11_one_427 : decode y11_one.2.1 427 = .ok (.bipush 6, 2) := by decide +kernel
theorem d11_one_429 : decode y11_one.2.1 429 = .ok (.if_icmp .ne 10, 3) := by decide +kernel
theorem d11_one_432 : decode y11_one.2.1 432 = .ok (.iload_n 2, 1) := by decide +kernel
theorem d11_one_433 : decode y11_one.2.1 433 = .ok (.iload 4, 2) := by decide +kernel
theorem d11_one_435 : decode y11_one.2.1 435 = .ok (.iand, 1) := by decide +kernel
theorem d11_one_436 : decode y11_one.2.1 436 = .ok (.goto 7, 3) := by decide +kernel
theorem d11_one_439 : decode y11_one.2.1 439 = .ok (.iload_n 2, 1) := by decide +kernel
theorem d11_one_440 : decode y11_one.2.1 440 = .ok (.iload 4, 2) := by decide +kernel
theorem d11_one_442 : decode y11_one.2.1 442 = .ok (.iushr, 1) := by decide +kernel
theorem d11_one_443 : decode y11_one.2.1 443 = .ok (.iastore, 1) := by decide +kernel
theorem d11_one_444 : decode y11_one.2.1 444 = .ok (.iconst 0, 1) := by decide +kernel
theorem d11_one_445 : decode y11_one.2.1 445 = .ok (.ireturn, 1) := by decide +kernel
theorem d11_result_0 : decode y11_result.2.1 0 = .ok (.aload_n 0, 1) := by decide +kernel
theorem d11_result_1 : decode y11_result.2.1 1 = .ok (.getfield 272, 3) := by decide +kernel
theorem d11_result_4 : decode y11_result.2.1 4 = .ok (.ireturn, 1) := by decide +kernel
theorem d11_steps_0 : decode y11_steps.2.1 0 = .ok (.aload_n 0, 1) := by decide +kernel
theorem d11_steps_1 : decode y11_steps.2.1 1 = .ok (.getfield 275, 3) := by decide +kernel
theorem d11_steps_4 : decode y11_steps.2.1 4 = .ok (.ireturn, 1) := by decide +kernel
