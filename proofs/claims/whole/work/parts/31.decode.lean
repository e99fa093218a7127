theorem d11_relaxOne_0 : decode y11_relaxOne.2.1 0 = .ok (.iconst 0, 1) := by decide +kernel
theorem d11_relaxOne_1 : decode y11_relaxOne.2.1 1 = .ok (.istore_n 3, 1) := by decide +kernel
theorem d11_relaxOne_2 : decode y11_relaxOne.2.1 2 = .ok (.iconst 0, 1) := by decide +kernel
theorem d11_relaxOne_3 : decode y11_relaxOne.2.1 3 = .ok (.istore 4, 2) := by decide +kernel
theorem d11_relaxOne_5 : decode y11_relaxOne.2.1 5 = .ok (.iload 4, 2) := by decide +kernel
theorem d11_relaxOne_7 : decode y11_relaxOne.2.1 7 = .ok (.bipush 10, 2) := by decide +kernel
theorem d11_relaxOne_9 : decode y11_relaxOne.2.1 9 = .ok (.if_icmp .ge 93, 3) := by decide +kernel
theorem d11_relaxOne_12 : decode y11_relaxOne.2.1 12 = .ok (.aload_n 0, 1) := by decide +kernel
theorem d11_relaxOne_13 : decode y11_relaxOne.2.1 13 = .ok (.getfield 59, 3) := by decide +kernel
theorem d11_relaxOne_16 : decode y11_relaxOne.2.1 16 = .ok (.bipush 10, 2) := by decide +kernel
theorem d11_relaxOne_18 : decode y11_relaxOne.2.1 18 = .ok (.iload_n 2, 1) := by decide +kernel
theorem d11_relaxOne_19 : decode y11_relaxOne.2.1 19 = .ok (.imul, 1) := by decide +kernel
theorem d11_relaxOne_20 : decode y11_relaxOne.2.1 20 = .ok (.iload 4, 2) := by decide +kernel
theorem d11_relaxOne_22 : decode y11_relaxOne.2.1 22 = .ok (.iadd, 1) := by decide +kernel
theorem d11_relaxOne_23 : decode y11_relaxOne.2.1 23 = .ok (.laload, 1) := by decide +kernel
theorem d11_relaxOne_24 : decode y11_relaxOne.2.1 24 = .ok (.lstore 5, 2) := by decide +kernel
theorem d11_relaxOne_26 : decode y11_relaxOne.2.1 26 = .ok (.lload 5, 2) := by decide +kernel
theorem d11_relaxOne_28 : decode y11_relaxOne.2.1 28 = .ok (.ldc2_w 123, 3) := by decide +kernel
theorem d11_relaxOne_31 : decode y11_relaxOne.2.1 31 = .ok (.lcmp, 1) := by decide +kernel
theorem d11_relaxOne_32 : decode y11_relaxOne.2.1 32 = .ok (.ifCond .ge 64, 3) := by decide +kernel
theorem d11_relaxOne_35 : decode y11_relaxOne.2.1 35 = .ok (.aload_n 0, 1) := by decide +kernel
theorem d11_relaxOne_36 : decode y11_relaxOne.2.1 36 = .ok (.getfield 59, 3) := by decide +kernel
theorem d11_relaxOne_39 : decode y11_relaxOne.2.1 39 = .ok (.bipush 10, 2) := by decide +kernel
theorem d11_relaxOne_41 : decode y11_relaxOne.2.1 41 = .ok (.iload_n 1, 1) := by decide +kernel
theorem d11_relaxOne_42 : decode y11_relaxOne.2.1 42 = .ok (.imul, 1) := by decide +kernel
theorem d11_relaxOne_43 : decode y11_relaxOne.2.1 43 = .ok (.iload_n 2, 1) := by decide +kernel
theorem d11_relaxOne_44 : decode y11_relaxOne.2.1 44 = .ok (.iadd, 1) := by decide +kernel
theorem d11_relaxOne_45 : decode y11_relaxOne.2.1 45 = .ok (.laload, 1) := by decide +kernel
theorem d11_relaxOne_46 : decode y11_relaxOne.2.1 46 = .ok (.lload 5, 2) := by decide +kernel
theorem d11_relaxOne_48 : decode y11_relaxOne.2.1 48 = .ok (.ladd, 1) := by decide +kernel
theorem d11_relaxOne_49 : decode y11_relaxOne.2.1 49 = .ok (.aload_n 0, 1) := by decide +kernel
theorem d11_relaxOne_50 : decode y11_relaxOne.2.1 50 = .ok (.getfield 59, 3) := by decide +kernel
theorem d11_relaxOne_53 : decode y11_relaxOne.2.1 53 = .ok (.bipush 10, 2) := by decide +kernel
theorem d11_relaxOne_55 : decode y11_relaxOne.2.1 55 = .ok (.iload_n 1, 1) := by decide +kernel
theorem d11_relaxOne_56 : decode y11_relaxOne.2.1 56 = .ok (.imul, 1) := by decide +kernel
theorem d11_relaxOne_57 : decode y11_relaxOne.2.1 57 = .ok (.iload 4, 2) := by decide +kernel
theorem d11_relaxOne_59 : decode y11_relaxOne.2.1 59 = .ok (.iadd, 1) := by decide +kernel
theorem d11_relaxOne_60 : decode y11_relaxOne.2.1 60 = .ok (.laload, 1) := by decide +kernel
theorem d11_relaxOne_61 : decode y11_relaxOne.2.1 61 = .ok (.lcmp, 1) := by decide +kernel
theorem d11_relaxOne_62 : decode y11_relaxOne.2.1 62 = .ok (.ifCond .lt 6, 3) := by decide +kernel
theorem d11_relaxOne_65 : decode y11_relaxOne.2.1 65 = .ok (.goto 31, 3) := by decide +kernel
theorem d11_relaxOne_68 : decode y11_relaxOne.2.1 68 = .ok (.aload_n 0, 1) := by decide +kernel
theorem d11_relaxOne_69 : decode y11_relaxOne.2.1 69 = .ok (.getfield 59, 3) := by decide +kernel
theorem d11_relaxOne_72 : decode y11_relaxOne.2.1 72 = .ok (.bipush 10, 2) := by decide +kernel
theorem d11_relaxOne_74 : decode y11_relaxOne.2.1 74 = .ok (.iload_n 1, 1) := by decide +kernel
theorem d11_relaxOne_75 : decode y11_relaxOne.2.1 75 = .ok (.imul, 1) := by decide +kernel
theorem d11_relaxOne_76 : decode y11_relaxOne.2.1 76 = .ok (.iload 4, 2) := by decide +kernel
theorem d11_relaxOne_78 : decode y11_relaxOne.2.1 78 = .ok (.iadd, 1) := by decide +kernel
theorem d11_relaxOne_79 : decode y11_relaxOne.2.1 79 = .ok (.aload_n 0, 1) := by decide +kernel
theorem d11_relaxOne_80 : decode y11_relaxOne.2.1 80 = .ok (.getfield 59, 3) := by decide +kernel
theorem d11_relaxOne_83 : decode y11_relaxOne.2.1 83 = .ok (.bipush 10, 2) := by decide +kernel
theorem d11_relaxOne_85 : decode y11_relaxOne.2.1 85 = .ok (.iload_n 1, 1) := by decide +kernel
theorem d11_relaxOne_86 : decode y11_relaxOne.2.1 86 = .ok (.imul, 1) := by decide +kernel
theorem d11_relaxOne_87 : decode y11_relaxOne.2.1 87 = .ok (.iload_n 2, 1) := by decide +kernel
theorem d11_relaxOne_88 : decode y11_relaxOne.2.1 88 = .ok (.iadd, 1) := by decide +kernel
theorem d11_relaxOne_89 : decode y11_relaxOne.2.1 89 = .ok (.laload, 1) := by decide +kernel
theorem d11_relaxOne_90 : decode y11_relaxOne.2.1 90 = .ok (.lload 5, 2) := by decide +kernel
theorem d11_relaxOne_92 : decode y11_relaxOne.2.1 92 = .ok (.ladd, 1) := by decide +kernel
theorem d11_relaxOne_93 : decode y11_relaxOne.2.1 93 = .ok (.lastore, 1) := by decide +kernel
theorem d11_relaxOne_94 : decode y11_relaxOne.2.1 94 = .ok (.iconst 1, 1) := by decide +kernel
theorem d11_relaxOne_95 : decode y11_relaxOne.2.1 95 = .ok (.istore_n 3, 1) := by decide +kernel
theorem d11_relaxOne_96 : decode y11_relaxOne.2.1 96 = .ok (.iinc 4 1, 3) := by decide +kernel
theorem d11_relaxOne_99 : decode y11_relaxOne.2.1 99 = .ok (.goto (-94), 3) := by decide +kernel
theorem d11_relaxOne_102 : decode y11_relaxOne.2.1 102 = .ok (.iload_n 3, 1) := by decide +kernel
theorem d11_relaxOne_103 : decode y11_relaxOne.2.1 103 = .ok (.ireturn, 1) := by decide +kernel
theorem d11_come_0 : decode y11_come.2.1 0 = .ok (.iconst 0, 1) := by decide +kernel
theorem d11_come_1 : decode y11_come.2.1 1 = .ok (.istore_n 2, 1) := by decide +kernel
theorem d11_come_2 : decode y11_come.2.1 2 = .ok (.iload_n 2, 1) := by decide +kernel
theorem d11_come_3 : decode y11_come.2.1 3 = .ok (.bipush 100, 2) := by decide +kernel
theorem d11_come_5 : decode y11_come.2.1 5 = .ok (.if_icmp .ge 88, 3) := by decide +kernel
theorem d11_come_8 : decode y11_come.2.1 8 = .ok (.iload_n 2, 1) := by decide +kernel
theorem d11_come_9 : decode y11_come.2.1 9 = .ok (.bipush 11, 2) := by decide +kernel
theorem d11_come_11 : decode y11_come.2.1 11 = .ok (.irem, 1) := by decide +kernel
theorem d11_come_12 : decode y11_come.2.1 12 = .ok (.ifCond .eq 24, 3) := by decide +kernel
theorem d11_come_15 : decode y11_come.2.1 15 = .ok (.aload_n 0, 1) := by decide +kernel
theorem d11_come_16 : decode y11_come.2.1 16 = .ok (.getfield 59, 3) := by decide +kernel
theorem d11_come_19 : decode y11_come.2.1 19 = .ok (.iload_n 2, 1) := by decide +kernel
theorem d11_come_20 : decode y11_come.2.1 20 = .ok (.laload, 1) := by decide +kernel
theorem d11_come_21 : decode y11_come.2.1 21 = .ok (.invokestatic 96, 3) := by decide +kernel
theorem d11_come_24 : decode y11_come.2.1 24 = .ok (.ifCond .eq 12, 3) := by decide +kernel
theorem d11_come_27 : decode y11_come.2.1 27 = .ok (.aload_n 0, 1) := by decide +kernel
theorem d11_come_28 : decode y11_come.2.1 28 = .ok (.getfield 59, 3) := by decide +kernel
theorem d11_come_31 : decode y11_come.2.1 31 = .ok (.iload_n 2, 1) := by decide +kernel
theorem d11_come_32 : decode y11_come.2.1 32 = .ok (.laload, 1) := by decide +kernel
theorem d11_come_33 : decode y11_come.2.1 33 = .ok (.goto 6, 3) := by decide +kernel
theorem d11_come_36 : decode y11_come.2.1 36 = .ok (.ldc2_w 123, 3) := by decide +kernel
theorem d11_come_39 : decode y11_come.2.1 39 = .ok (.lstore_n 3, 1) := by decide +kernel
theorem d11_come_40 : decode y11_come.2.1 40 = .ok (.bipush 100, 2) := by decide +kernel
theorem d11_come_42 : decode y11_come.2.1 42 = .ok (.iload_n 1, 1) := by decide +kernel
theorem d11_come_43 : decode y11_come.2.1 43 = .ok (.imul, 1) := by decide +kernel
theorem d11_come_44 : decode y11_come.2.1 44 = .ok (.iload_n 2, 1) := by decide +kernel
theorem d11_come_45 : decode y11_come.2.1 45 = .ok (.iadd, 1) := by decide +kernel
theorem d11_come_46 : decode y11_come.2.1 46 = .ok (.istore 5, 2) := by decide +kernel
theorem d11_come_48 : decode y11_come.2.1 48 = .ok (.aload_n 0, 1) := by decide +kernel
theorem d11_come_49 : decode y11_come.2.1 49 = .ok (.getfield 49, 3) := by decide +kernel
theorem d11_come_52 : decode y11_come.2.1 52 = .ok (.iload 5, 2) := by decide +kernel
theorem d11_come_54 : decode y11_come.2.1 54 = .ok (.aload_n 0, 1) := by decide +kernel
theorem d11_come_55 : decode y11_come.2.1 55 = .ok (.getfield 52, 3) := by decide +kernel
theorem d11_come_58 : decode y11_come.2.1 58 = .ok (.iload_n 1, 1) := by decide +kernel
theorem d11_come_59 : decode y11_come.2.1 59 = .ok (.baload, 1) := by decide +kernel
theorem d11_come_60 : decode y11_come.2.1 60 = .ok (.ifCond .eq 25, 3) := by decide +kernel
theorem d11_come_63 : decode y11_come.2.1 63 = .ok (.aload_n 0, 1) := by decide +kernel
theorem d11_come_64 : decode y11_come.2.1 64 = .ok (.getfield 49, 3) := by decide +kernel
theorem d11_come_67 : decode y11_come.2.1 67 = .ok (.iload 5, 2) := by decide +kernel
theorem d11_come_69 : decode y11_come.2.1 69 = .ok (.laload, 1) := by decide +kernel
theorem d11_come_70 : decode y11_come.2.1 70 = .ok (.lload_n 3, 1) := by decide +kernel
theorem d11_come_71 : decode y11_come.2.1 71 = .ok (.lcmp, 1) := by decide +kernel
theorem d11_come_72 : decode y11_come.2.1 72 = .ok (.ifCond .le 13, 3) := by decide +kernel
theorem d11_come_75 : decode y11_come.2.1 75 = .ok (.aload_n 0, 1) := by decide +kernel
theorem d11_come_76 : decode y11_come.2.1 76 = .ok (.getfield 49, 3) := by decide +kernel
theorem d11_come_79 : decode y11_come.2.1 79 = .ok (.iload 5, 2) := by decide +kernel
theorem d11_come_81 : decode y11_come.2.1 81 = .ok (.laload, 1) := by decide +kernel
theorem d11_come_82 : decode y11_come.2.1 82 = .ok (.goto 4, 3) := by decide +kernel
theorem d11_come_85 : decode y11_come.2.1 85 = .ok (.lload_n 3, 1) := by decide +kernel
theorem d11_come_86 : decode y11_come.2.1 86 = .ok (.lastore, 1) := by decide +kernel
theorem d11_come_87 : decode y11_come.2.1 87 = .ok (.iinc 2 1, 3) := by decide +kernel
theorem d11_come_90 : decode y11_come.2.1 90 = .ok (.goto (-88), 3) := by decide +kernel
theorem d11_come_93 : decode y11_come.2.1 93 = .ok (.aload_n 0, 1) := by decide +kernel
theorem d11_come_94 : decode y11_come.2.1 94 = .ok (.getfield 52, 3) := by decide +kernel
theorem d11_come_97 : decode y11_come.2.1 97 = .ok (.iload_n 1, 1) := by decide +kernel
theorem d11_come_98 : decode y11_come.2.1 98 = .ok (.iconst 1, 1) := by decide +kernel
theorem d11_come_99 : decode y11_come.2.1 99 = .ok (.bastore, 1) := by decide +kernel
theorem d11_come_100 : decode y11_come.2.1 100 = .ok (.return_, 1) := by decide +kernel
theorem d11_end_0 : decode y11_end.2.1 0 = .ok (.iload_n 2, 1) := by decide +kernel
theorem d11_end_1 : decode y11_end.2.1 1 = .ok (.ifCond .ne 31, 3) := by decide +kernel
theorem d11_end_4 : decode y11_end.2.1 4 = .ok (.aload_n 0, 1) := by decide +kernel
theorem d11_end_5 : decode y11_end.2.1 5 = .ok (.getfield 7, 3) := by decide +kernel
theorem d11_end_8 : decode y11_end.2.1 8 = .ok (.iload_n 1, 1) := by decide +kernel
theorem d11_end_9 : decode y11_end.2.1 9 = .ok (.iaload, 1) := by decide +kernel
theorem d11_end_10 : decode y11_end.2.1 10 = .ok (.ifCond .eq 14, 3) := by decide +kernel
theorem d11_end_13 : decode y11_end.2.1 13 = .ok (.aload_n 0, 1) := by decide +kernel
theorem d11_end_14 : decode y11_end.2.1 14 = .ok (.getfield 7, 3) := by decide +kernel
theorem d11_end_17 : decode y11_end.2.1 17 = .ok (.iload_n 1, 1) := by decide +kernel
theorem d11_end_18 : decode y11_end.2.1 18 = .ok (.iaload, 1) := by decide +kernel
theorem d11_end_19 : decode y11_end.2.1 19 = .ok (.bipush 13, 2) := by decide +kernel
theorem d11_end_21 : decode y11_end.2.1 21 = .ok (.if_icmp .ne 7, 3) := by decide +kernel
theorem d11_end_24 : decode y11_end.2.1 24 = .ok (.iconst (-1), 1) := by decide +kernel
theorem d11_end_25 : decode y11_end.2.1 25 = .ok (.goto 6, 3) := by decide +kernel
theorem d11_end_28 : decode y11_end.2.1 28 = .ok (.iload_n 1, 1) := by decide +kernel
theorem d11_end_29 : decode y11_end.2.1 29 = .ok (.iconst 1, 1) := by decide +kernel
theorem d11_end_30 : decode y11_end.2.1 30 = .ok (.iadd, 1) := by decide +kernel
theorem d11_end_31 : decode y11_end.2.1 31 = .ok (.ireturn, 1) := by decide +kernel
theorem d11_end_32 : decode y11_end.2.1 32 = .ok (.aload_n 0, 1) := by decide +kernel
theorem d11_end_33 : decode y11_end.2.1 33 = .ok (.getfield 7, 3) := by decide +kernel
theorem d11_end_36 : decode y11_end.2.1 36 = .ok (.iload_n 1, 1) := by decide +kernel
theorem d11_end_37 : decode y11_end.2.1 37 = .ok (.iaload, 1) := by decide +kernel
theorem d11_end_38 : decode y11_end.2.1 38 = .ok (.bipush 12, 2) := by decide +kernel
theorem d11_end_40 : decode y11_end.2.1 40 = .ok (.if_icmp .le 12, 3) := by decide +kernel
theorem d11_end_43 : decode y11_end.2.1 43 = .ok (.aload_n 0, 1) := by decide +kernel
theorem d11_end_44 : decode y11_end.2.1 44 = .ok (.getfield 22, 3) := by decide +kernel
theorem d11_end_47 : decode y11_end.2.1 47 = .ok (.iload_n 1, 1) := by decide +kernel
theorem d11_end_48 : decode y11_end.2.1 48 = .ok (.iaload, 1) := by decide +kernel
theorem d11_end_49 : decode y11_end.2.1 49 = .ok (.goto 4, 3) := by decide +kernel
theorem d11_end_52 : decode y11_end.2.1 52 = .ok (.iconst (-1), 1) := by decide +kernel
theorem d11_end_53 : decode y11_end.2.1 53 = .ok (.ireturn, 1) := by decide +kernel
theorem d11_stepsOf_0 : decode y11_stepsOf.2.1 0 = .ok (.aload_n 0, 1) := by decide +kernel
theorem d11_stepsOf_1 : decode y11_stepsOf.2.1 1 = .ok (.iconst 1, 1) := by decide +kernel
theorem d11_stepsOf_2 : decode y11_stepsOf.2.1 2 = .ok (.putfield 92, 3) := by decide +kernel
theorem d11_stepsOf_5 : decode y11_stepsOf.2.1 5 = .ok (.aload_n 0, 1) := by decide +kernel
theorem d11_stepsOf_6 : decode y11_stepsOf.2.1 6 = .ok (.iconst 0, 1) := by decide +kernel
theorem d11_stepsOf_7 : decode y11_stepsOf.2.1 7 = .ok (.putfield 100, 3) := by decide +kernel
theorem d11_stepsOf_10 : decode y11_stepsOf.2.1 10 = .ok (.iconst 0, 1) := by decide +kernel
theorem d11_stepsOf_11 : decode y11_stepsOf.2.1 11 = .ok (.istore_n 3, 1) := by decide +kernel
theorem d11_stepsOf_12 : decode y11_stepsOf.2.1 12 = .ok (.iload_n 3, 1) := by decide +kernel
theorem d11_stepsOf_13 : decode y11_stepsOf.2.1 13 = .ok (.bipush 100, 2) := by decide +kernel
theorem d11_stepsOf_15 : decode y11_stepsOf.2.1 15 = .ok (.if_icmp .ge 52, 3) := by decide +kernel
theorem d11_stepsOf_18 : decode y11_stepsOf.2.1 18 = .ok (.aload_n 0, 1) := by decide +kernel
theorem d11_stepsOf_19 : decode y11_stepsOf.2.1 19 = .ok (.getfield 49, 3) := by decide +kernel
theorem d11_stepsOf_22 : decode y11_stepsOf.2.1 22 = .ok (.bipush 100, 2) := by decide +kernel
theorem d11_stepsOf_24 : decode y11_stepsOf.2.1 24 = .ok (.iload_n 1, 1) := by decide +kernel
theorem d11_stepsOf_25 : decode y11_stepsOf.2.1 25 = .ok (.imul, 1) := by decide +kernel
theorem d11_stepsOf_26 : decode y11_stepsOf.2.1 26 = .ok (.iload_n 3, 1) := by decide +kernel
theorem d11_stepsOf_27 : decode y11_stepsOf.2.1 27 = .ok (.iadd, 1) := by decide +kernel
theorem d11_stepsOf_28 : decode y11_stepsOf.2.1 28 = .ok (.laload, 1) := by decide +kernel
theorem d11_stepsOf_29 : decode y11_stepsOf.2.1 29 = .ok (.ldc2_w 123, 3) := by decide +kernel
theorem d11_stepsOf_32 : decode y11_stepsOf.2.1 32 = .ok (.lcmp, 1) := by decide +kernel
theorem d11_stepsOf_33 : decode y11_stepsOf.2.1 33 = .ok (.ifCond .ge 28, 3) := by decide +kernel
theorem d11_stepsOf_36 : decode y11_stepsOf.2.1 36 = .ok (.aload_n 0, 1) := by decide +kernel
theorem d11_stepsOf_37 : decode y11_stepsOf.2.1 37 = .ok (.iload_n 1, 1) := by decide +kernel
theorem d11_stepsOf_38 : decode y11_stepsOf.2.1 38 = .ok (.iload_n 3, 1) := by decide +kernel
theorem d11_stepsOf_39 : decode y11_stepsOf.2.1 39 = .ok (.iload_n 3, 1) := by decide +kernel
theorem d11_stepsOf_40 : decode y11_stepsOf.2.1 40 = .ok (.bipush 10, 2) := by decide +kernel
theorem d11_stepsOf_42 : decode y11_stepsOf.2.1 42 = .ok (.idiv, 1) := by decide +kernel
theorem d11_stepsOf_43 : decode y11_stepsOf.2.1 43 = .ok (.iload_n 3, 1) := by decide +kernel
theorem d11_stepsOf_44 : decode y11_stepsOf.2.1 44 = .ok (.bipush 10, 2) := by decide +kernel
theorem d11_stepsOf_46 : decode y11_stepsOf.2.1 46 = .ok (.irem, 1) := by decide +kernel
theorem d11_stepsOf_47 : decode y11_stepsOf.2.1 47 = .ok (.aload_n 0, 1) := by decide +kernel
theorem d11_stepsOf_48 : decode y11_stepsOf.2.1 48 = .ok (.getfield 49, 3) := by decide +kernel
theorem d11_stepsOf_51 : decode y11_stepsOf.2.1 51 = .ok (.bipush 100, 2) := by decide +kernel
theorem d11_stepsOf_53 : decode y11_stepsOf.2.1 53 = .ok (.iload_n 1, 1) := by decide +kernel
theorem d11_stepsOf_54 : decode y11_stepsOf.2.1 54 = .ok (.imul, 1) := by decide +kernel
theorem d11_stepsOf_55 : decode y11_stepsOf.2.1 55 = .ok (.iload_n 3, 1) := by decide +kernel
theorem d11_stepsOf_56 : decode y11_stepsOf.2.1 56 = .ok (.iadd, 1) := by decide +kernel
theorem d11_stepsOf_57 : decode y11_stepsOf.2.1 57 = .ok (.laload, 1) := by decide +kernel
theorem d11_stepsOf_58 : decode y11_stepsOf.2.1 58 = .ok (.invokevirtual 133, 3) := by decide +kernel
theorem d11_stepsOf_61 : decode y11_stepsOf.2.1 61 = .ok (.iinc 3 1, 3) := by decide +kernel
theorem d11_stepsOf_64 : decode y11_stepsOf.2.1 64 = .ok (.goto (-52), 3) := by decide +kernel
theorem d11_stepsOf_67 : decode y11_stepsOf.2.1 67 = .ok (.aload_n 0, 1) := by decide +kernel
theorem d11_stepsOf_68 : decode y11_stepsOf.2.1 68 = .ok (.iload_n 1, 1) := by decide +kernel
theorem d11_stepsOf_69 : decode y11_stepsOf.2.1 69 = .ok (.iload_n 2, 1) := by decide +kernel
theorem d11_stepsOf_70 : decode y11_stepsOf.2.1 70 = .ok (.bipush 100, 2) := by decide +kernel
theorem d11_stepsOf_72 : decode y11_stepsOf.2.1 72 = .ok (.invokevirtual 137, 3) := by decide +kernel
theorem d11_stepsOf_75 : decode y11_stepsOf.2.1 75 = .ok (.aload_n 0, 1) := by decide +kernel
theorem d11_stepsOf_76 : decode y11_stepsOf.2.1 76 = .ok (.getfield 7, 3) := by decide +kernel
theorem d11_stepsOf_79 : decode y11_stepsOf.2.1 79 = .ok (.iload_n 1, 1) := by decide +kernel
theorem d11_stepsOf_80 : decode y11_stepsOf.2.1 80 = .ok (.iaload, 1) := by decide +kernel
theorem d11_stepsOf_81 : decode y11_stepsOf.2.1 81 = .ok (.iconst 4, 1) := by decide +kernel
theorem d11_stepsOf_82 : decode y11_stepsOf.2.1 82 = .ok (.if_icmp .eq 4, 3) := by decide +kernel
theorem d11_stepsOf_85 : decode y11_stepsOf.2.1 85 = .ok (.return_, 1) := by decide +kernel
theorem d11_stepsOf_86 : decode y11_stepsOf.2.1 86 = .ok (.iconst 0, 1) := by decide +kernel
theorem d11_stepsOf_87 : decode y11_stepsOf.2.1 87 = .ok (.istore_n 3, 1) := by decide +kernel
theorem d11_stepsOf_88 : decode y11_stepsOf.2.1 88 = .ok (.iload_n 3, 1) := by decide +kernel
theorem d11_stepsOf_89 : decode y11_stepsOf.2.1 89 = .ok (.bipush 100, 2) := by decide +kernel
theorem d11_stepsOf_91 : decode y11_stepsOf.2.1 91 = .ok (.if_icmp .ge 41, 3) := by decide +kernel
theorem d11_stepsOf_94 : decode y11_stepsOf.2.1 94 = .ok (.aload_n 0, 1) := by decide +kernel
theorem d11_stepsOf_95 : decode y11_stepsOf.2.1 95 = .ok (.iload_n 1, 1) := by decide +kernel
theorem d11_stepsOf_96 : decode y11_stepsOf.2.1 96 = .ok (.iload_n 3, 1) := by decide +kernel
theorem d11_stepsOf_97 : decode y11_stepsOf.2.1 97 = .ok (.bipush 10, 2) := by decide +kernel
theorem d11_stepsOf_99 : decode y11_stepsOf.2.1 99 = .ok (.bipush 10, 2) := by decide +kernel
theorem d11_stepsOf_101 : decode y11_stepsOf.2.1 101 = .ok (.aload_n 0, 1) := by decide +kernel
theorem d11_stepsOf_102 : decode y11_stepsOf.2.1 102 = .ok (.getfield 16, 3) := by decide +kernel
theorem d11_stepsOf_105 : decode y11_stepsOf.2.1 105 = .ok (.iload_n 1, 1) := by decide +kernel
theorem d11_stepsOf_106 : decode y11_stepsOf.2.1 106 = .ok (.iaload, 1) := by decide +kernel
theorem d11_stepsOf_107 : decode y11_stepsOf.2.1 107 = .ok (.imul, 1) := by decide +kernel
theorem d11_stepsOf_108 : decode y11_stepsOf.2.1 108 = .ok (.iadd, 1) := by decide +kernel
theorem d11_stepsOf_109 : decode y11_stepsOf.2.1 109 = .ok (.invokevirtual 141, 3) := by decide +kernel
theorem d11_stepsOf_112 : decode y11_stepsOf.2.1 112 = .ok (.aload_n 0, 1) := by decide +kernel
theorem d11_stepsOf_113 : decode y11_stepsOf.2.1 113 = .ok (.iload_n 1, 1) := by decide +kernel
theorem d11_stepsOf_114 : decode y11_stepsOf.2.1 114 = .ok (.iload_n 3, 1) := by decide +kernel
theorem d11_stepsOf_115 : decode y11_stepsOf.2.1 115 = .ok (.iconst 1, 1) := by decide +kernel
theorem d11_stepsOf_116 : decode y11_stepsOf.2.1 116 = .ok (.aload_n 0, 1) := by decide +kernel
theorem d11_stepsOf_117 : decode y11_stepsOf.2.1 117 = .ok (.getfield 16, 3) := by decide +kernel
theorem d11_stepsOf_120 : decode y11_stepsOf.2.1 120 = .ok (.iload_n 1, 1) := by decide +kernel
theorem d11_stepsOf_121 : decode y11_stepsOf.2.1 121 = .ok (.iaload, 1) := by decide +kernel
theorem d11_stepsOf_122 : decode y11_stepsOf.2.1 122 = .ok (.iadd, 1) := by decide +kernel
theorem d11_stepsOf_123 : decode y11_stepsOf.2.1 123 = .ok (.invokevirtual 141, 3) := by decide +kernel
theorem d11_stepsOf_126 : decode y11_stepsOf.2.1 126 = .ok (.iinc 3 1, 3) := by decide +kernel
theorem d11_stepsOf_129 : decode y11_stepsOf.2.1 129 = .ok (.goto (-41), 3) := by decide +kernel
theorem d11_stepsOf_132 : decode y11_stepsOf.2.1 132 = .ok (.return_, 1) := by decide +kernel
theorem d11_keep_0 : decode y11_keep.2.1 0 = .ok (.iconst 1, 1) := by decide +kernel
theorem d11_keep_1 : decode y11_keep.2.1 1 = .ok (.aload_n 0, 1) := by decide +kernel
theorem d11_keep_2 : decode y11_keep.2.1 2 = .ok (.getfield 13, 3) := by decide +kernel
theorem d11_keep_5 : decode y11_keep.2.1 5 = .ok (.iload_n 1, 1) := by decide +kernel
theorem d11_keep_6 : decode y11_keep.2.1 6 = .ok (.iaload, 1) := by decide +kernel
theorem d11_keep_7 : decode y11_keep.2.1 7 = .ok (.iadd, 1) := by decide +kernel
theorem d11_keep_8 : decode y11_keep.2.1 8 = .ok (.istore 7, 2) := by decide +kernel
theorem d11_keep_10 : decode y11_keep.2.1 10 = .ok (.aload_n 0, 1) := by decide +kernel
theorem d11_keep_11 : decode y11_keep.2.1 11 = .ok (.iload_n 1, 1) := by decide +kernel
theorem d11_keep_12 : decode y11_keep.2.1 12 = .ok (.invokevirtual 103, 3) := by decide +kernel
theorem d11_keep_15 : decode y11_keep.2.1 15 = .ok (.ifCond .eq 16, 3) := by decide +kernel
theorem d11_keep_18 : decode y11_keep.2.1 18 = .ok (.iload_n 3, 1) := by decide +kernel
theorem d11_keep_19 : decode y11_keep.2.1 19 = .ok (.iload 7, 2) := by decide +kernel
theorem d11_keep_21 : decode y11_keep.2.1 21 = .ok (.if_icmp .eq 23, 3) := by decide +kernel
theorem d11_keep_24 : decode y11_keep.2.1 24 = .ok (.iload 4, 2) := by decide +kernel
theorem d11_keep_26 : decode y11_keep.2.1 26 = .ok (.iload 7, 2) := by decide +kernel
theorem d11_keep_28 : decode y11_keep.2.1 28 = .ok (.if_icmp .eq 16, 3) := by decide +kernel
theorem d11_keep_31 : decode y11_keep.2.1 31 = .ok (.aload_n 0, 1) := by decide +kernel
theorem d11_keep_32 : decode y11_keep.2.1 32 = .ok (.iload_n 2, 1) := by decide +kernel
theorem d11_keep_33 : decode y11_keep.2.1 33 = .ok (.iload_n 3, 1) := by decide +kernel
theorem d11_keep_34 : decode y11_keep.2.1 34 = .ok (.iload 4, 2) := by decide +kernel
theorem d11_keep_36 : decode y11_keep.2.1 36 = .ok (.lload 5, 2) := by decide +kernel
theorem d11_keep_38 : decode y11_keep.2.1 38 = .ok (.invokevirtual 107, 3) := by decide +kernel
theorem d11_keep_41 : decode y11_keep.2.1 41 = .ok (.goto 132, 3) := by decide +kernel
theorem d11_keep_44 : decode y11_keep.2.1 44 = .ok (.aload_n 0, 1) := by decide +kernel
theorem d11_keep_45 : decode y11_keep.2.1 45 = .ok (.getfield 7, 3) := by decide +kernel
theorem d11_keep_48 : decode y11_keep.2.1 48 = .ok (.iload_n 1, 1) := by decide +kernel
theorem d11_keep_49 : decode y11_keep.2.1 49 = .ok (.iaload, 1) := by decide +kernel
theorem d11_keep_50 : decode y11_keep.2.1 50 = .ok (.iconst 3, 1) := by decide +kernel
theorem d11_keep_51 : decode y11_keep.2.1 51 = .ok (.if_icmp .ne 43, 3) := by decide +kernel
theorem d11_keep_54 : decode y11_keep.2.1 54 = .ok (.aload_n 0, 1) := by decide +kernel
theorem d11_keep_55 : decode y11_keep.2.1 55 = .ok (.iload_n 2, 1) := by decide +kernel
theorem d11_keep_56 : decode y11_keep.2.1 56 = .ok (.iload_n 3, 1) := by decide +kernel
theorem d11_keep_57 : decode y11_keep.2.1 57 = .ok (.iload 4, 2) := by decide +kernel
theorem d11_keep_59 : decode y11_keep.2.1 59 = .ok (.iload_n 3, 1) := by decide +kernel
theorem d11_keep_60 : decode y11_keep.2.1 60 = .ok (.iload 7, 2) := by decide +kernel
theorem d11_keep_62 : decode y11_keep.2.1 62 = .ok (.if_icmp .ne 16, 3) := by decide +kernel
theorem d11_keep_65 : decode y11_keep.2.1 65 = .ok (.lload 5, 2) := by decide +kernel
theorem d11_keep_67 : decode y11_keep.2.1 67 = .ok (.aload_n 0, 1) := by decide +kernel
theorem d11_keep_68 : decode y11_keep.2.1 68 = .ok (.getfield 19, 3) := by decide +kernel
theorem d11_keep_71 : decode y11_keep.2.1 71 = .ok (.iload_n 1, 1) := by decide +kernel
theorem d11_keep_72 : decode y11_keep.2.1 72 = .ok (.iaload, 1) := by decide +kernel
theorem d11_keep_73 : decode y11_keep.2.1 73 = .ok (.i2l, 1) := by decide +kernel
theorem d11_keep_74 : decode y11_keep.2.1 74 = .ok (.ladd, 1) := by decide +kernel
theorem d11_keep_75 : decode y11_keep.2.1 75 = .ok (.goto 13, 3) := by decide +kernel
theorem d11_keep_78 : decode y11_keep.2.1 78 = .ok (.lload 5, 2) := by decide +kernel
theorem d11_keep_80 : decode y11_keep.2.1 80 = .ok (.aload_n 0, 1) := by decide +kernel
theorem d11_keep_81 : decode y11_keep.2.1 81 = .ok (.getfield 19, 3) := by decide +kernel
theorem d11_keep_84 : decode y11_keep.2.1 84 = .ok (.iload_n 1, 1) := by decide +kernel
theorem d11_keep_85 : decode y11_keep.2.1 85 = .ok (.iaload, 1) := by decide +kernel
theorem d11_keep_86 : decode y11_keep.2.1 86 = .ok (.i2l, 1) := by decide +kernel
theorem d11_keep_87 : decode y11_keep.2.1 87 = .ok (.lsub, 1) := by decide +kernel
theorem d11_keep_88 : decode y11_keep.2.1 88 = .ok (.invokevirtual 107, 3) := by decide +kernel
theorem d11_keep_91 : decode y11_keep.2.1 91 = .ok (.goto 82, 3) := by decide +kernel
theorem d11_keep_94 : decode y11_keep.2.1 94 = .ok (.aload_n 0, 1) := by decide +kernel
theorem d11_keep_95 : decode y11_keep.2.1 95 = .ok (.getfield 7, 3) := by decide +kernel
theorem d11_keep_98 : decode y11_keep.2.1 98 = .ok (.iload_n 1, 1) := by decide +kernel
theorem d11_keep_99 : decode y11_keep.2.1 99 = .ok (.iaload, 1) := by decide +kernel
theorem d11_keep_100 : decode y11_keep.2.1 100 = .ok (.iconst 5, 1) := by decide +kernel
theorem d11_keep_101 : decode y11_keep.2.1 101 = .ok (.if_icmp .ne 72, 3) := by decide +kernel
theorem d11_keep_104 : decode y11_keep.2.1 104 = .ok (.aload_n 0, 1) := by decide +kernel
theorem d11_keep_105 : decode y11_keep.2.1 105 = .ok (.getfield 13, 3) := by decide +kernel
theorem d11_keep_108 : decode y11_keep.2.1 108 = .ok (.iload_n 1, 1) := by decide +kernel
theorem d11_keep_109 : decode y11_keep.2.1 109 = .ok (.iaload, 1) := by decide +kernel
theorem d11_keep_110 : decode y11_keep.2.1 110 = .ok (.aload_n 0, 1) := by decide +kernel
theorem d11_keep_111 : decode y11_keep.2.1 111 = .ok (.getfield 16, 3) := by decide +kernel
theorem d11_keep_114 : decode y11_keep.2.1 114 = .ok (.iload_n 1, 1) := by decide +kernel
theorem d11_keep_115 : decode y11_keep.2.1 115 = .ok (.iaload, 1) := by decide +kernel
theorem d11_keep_116 : decode y11_keep.2.1 116 = .ok (.if_icmp .eq 57, 3) := by decide +kernel
theorem d11_keep_119 : decode y11_keep.2.1 119 = .ok (.iload_n 3, 1) := by decide +kernel
theorem d11_keep_120 : decode y11_keep.2.1 120 = .ok (.iload 7, 2) := by decide +kernel
theorem d11_keep_122 : decode y11_keep.2.1 122 = .ok (.if_icmp .ne 8, 3) := by decide +kernel
theorem d11_keep_125 : decode y11_keep.2.1 125 = .ok (.iload 4, 2) := by decide +kernel
theorem d11_keep_127 : decode y11_keep.2.1 127 = .ok (.goto 4, 3) := by decide +kernel
theorem d11_keep_130 : decode y11_keep.2.1 130 = .ok (.iload_n 3, 1) := by decide +kernel
theorem d11_keep_131 : decode y11_keep.2.1 131 = .ok (.iconst 1, 1) := by decide +kernel
theorem d11_keep_132 : decode y11_keep.2.1 132 = .ok (.aload_n 0, 1) := by decide +kernel
theorem d11_keep_133 : decode y11_keep.2.1 133 = .ok (.getfield 16, 3) := by decide +kernel
theorem d11_keep_136 : decode y11_keep.2.1 136 = .ok (.iload_n 1, 1) := by decide +kernel
theorem d11_keep_137 : decode y11_keep.2.1 137 = .ok (.iaload, 1) := by decide +kernel
theorem d11_keep_138 : decode y11_keep.2.1 138 = .ok (.iadd, 1) := by decide +kernel
theorem d11_keep_139 : decode y11_keep.2.1 139 = .ok (.if_icmp .ne 34, 3) := by decide +kernel
theorem d11_keep_142 : decode y11_keep.2.1 142 = .ok (.aload_n 0, 1) := by decide +kernel
theorem d11_keep_143 : decode y11_keep.2.1 143 = .ok (.iload_n 2, 1) := by decide +kernel
theorem d11_keep_144 : decode y11_keep.2.1 144 = .ok (.iload_n 3, 1) := by decide +kernel
theorem d11_keep_145 : decode y11_keep.2.1 145 = .ok (.iload 7, 2) := by decide +kernel
theorem d11_keep_147 : decode y11_keep.2.1 147 = .ok (.if_icmp .ne 8, 3) := by decide +kernel
theorem d11_keep_150 : decode y11_keep.2.1 150 = .ok (.iload 7, 2) := by decide +kernel
theorem d11_keep_152 : decode y11_keep.2.1 152 = .ok (.goto 4, 3) := by decide +kernel
theorem d11_keep_155 : decode y11_keep.2.1 155 = .ok (.iconst 0, 1) := by decide +kernel
theorem d11_keep_156 : decode y11_keep.2.1 156 = .ok (.iload_n 3, 1) := by decide +kernel
theorem d11_keep_157 : decode y11_keep.2.1 157 = .ok (.iload 7, 2) := by decide +kernel
theorem d11_keep_159 : decode y11_keep.2.1 159 = .ok (.if_icmp .ne 7, 3) := by decide +kernel
theorem d11_keep_162 : decode y11_keep.2.1 162 = .ok (.iconst 0, 1) := by decide +kernel
theorem d11_keep_163 : decode y11_keep.2.1 163 = .ok (.goto 5, 3) := by decide +kernel
theorem d11_keep_166 : decode y11_keep.2.1 166 = .ok (.iload 7, 2) := by decide +kernel
theorem d11_keep_168 : decode y11_keep.2.1 168 = .ok (.lload 5, 2) := by decide +kernel
theorem d11_keep_170 : decode y11_keep.2.1 170 = .ok (.invokevirtual 107, 3) := by decide +kernel
theorem d11_keep_173 : decode y11_keep.2.1 173 = .ok (.return_, 1) := by decide +kernel
theorem d11_changes_0 : decode y11_changes.2.1 0 = .ok (.aload_n 0, 1) := by decide +kernel
theorem d11_changes_1 : decode y11_changes.2.1 1 = .ok (.getfield 7, 3) := by decide +kernel
theorem d11_changes_4 : decode y11_changes.2.1 4 = .ok (.iload_n 1, 1) := by decide +kernel
theorem d11_changes_5 : decode y11_changes.2.1 5 = .ok (.iaload, 1) := by decide +kernel
theorem d11_changes_6 : decode y11_changes.2.1 6 = .ok (.ifCond .le 43, 3) := by decide +kernel
theorem d11_changes_9 : decode y11_changes.2.1 9 = .ok (.aload_n 0, 1) := by decide +kernel
theorem d11_changes_10 : decode y11_changes.2.1 10 = .ok (.getfield 7, 3) := by decide +kernel
theorem d11_changes_13 : decode y11_changes.2.1 13 = .ok (.iload_n 1, 1) := by decide +kernel
theorem d11_changes_14 : decode y11_changes.2.1 14 = .ok (.iaload, 1) := by decide +kernel
theorem d11_changes_15 : decode y11_changes.2.1 15 = .ok (.bipush 12, 2) := by decide +kernel
theorem d11_changes_17 : decode y11_changes.2.1 17 = .ok (.if_icmp .ge 32, 3) := by decide +kernel
theorem d11_changes_20 : decode y11_changes.2.1 20 = .ok (.aload_n 0, 1) := by decide +kernel
theorem d11_changes_21 : decode y11_changes.2.1 21 = .ok (.getfield 7, 3) := by decide +kernel
theorem d11_changes_24 : decode y11_changes.2.1 24 = .ok (.iload_n 1, 1) := by decide +kernel
theorem d11_changes_25 : decode y11_changes.2.1 25 = .ok (.iaload, 1) := by decide +kernel
theorem d11_changes_26 : decode y11_changes.2.1 26 = .ok (.iconst 2, 1) := by decide +kernel
theorem d11_changes_27 : decode y11_changes.2.1 27 = .ok (.if_icmp .ne 18, 3) := by decide +kernel
theorem d11_changes_30 : decode y11_changes.2.1 30 = .ok (.aload_n 0, 1) := by decide +kernel
theorem d11_changes_31 : decode y11_changes.2.1 31 = .ok (.getfield 13, 3) := by decide +kernel
theorem d11_changes_34 : decode y11_changes.2.1 34 = .ok (.iload_n 1, 1) := by decide +kernel
theorem d11_changes_35 : decode y11_changes.2.1 35 = .ok (.iaload, 1) := by decide +kernel
theorem d11_changes_36 : decode y11_changes.2.1 36 = .ok (.aload_n 0, 1) := by decide +kernel
theorem d11_changes_37 : decode y11_changes.2.1 37 = .ok (.getfield 16, 3) := by decide +kernel
theorem d11_changes_40 : decode y11_changes.2.1 40 = .ok (.iload_n 1, 1) := by decide +kernel
theorem d11_changes_41 : decode y11_changes.2.1 41 = .ok (.iaload, 1) := by decide +kernel
theorem d11_changes_42 : decode y11_changes.2.1 42 = .ok (.if_icmp .eq 7, 3) := by decide +kernel
theorem d11_changes_45 : decode y11_changes.2.1 45 = .ok (.iconst 1, 1) := by decide +kernel
theorem d11_changes_46 : decode y11_changes.2.1 46 = .ok (.goto 4, 3) := by decide +kernel
theorem d11_changes_49 : decode y11_changes.2.1 49 = .ok (.iconst 0, 1) := by decide +kernel
theorem d11_changes_50 : decode y11_changes.2.1 50 = .ok (.ireturn, 1) := by decide +kernel
theorem d11_further_0 : decode y11_further.2.1 0 = .ok (.iconst 1, 1) := by decide +kernel
theorem d11_further_1 : decode y11_further.2.1 1 = .ok (.aload_n 0, 1) := by decide +kernel
theorem d11_further_2 : decode y11_further.2.1 2 = .ok (.getfield 13, 3) := by decide +kernel
theorem d11_further_5 : decode y11_further.2.1 5 = .ok (.iload_n 1, 1) := by decide +kernel
theorem d11_further_6 : decode y11_further.2.1 6 = .ok (.iaload, 1) := by decide +kernel
theorem d11_further_7 : decode y11_further.2.1 7 = .ok (.iadd, 1) := by decide +kernel
theorem d11_further_8 : decode y11_further.2.1 8 = .ok (.istore 4, 2) := by decide +kernel
theorem d11_further_10 : decode y11_further.2.1 10 = .ok (.iconst 1, 1) := by decide +kernel
theorem d11_further_11 : decode y11_further.2.1 11 = .ok (.aload_n 0, 1) := by decide +kernel
theorem d11_further_12 : decode y11_further.2.1 12 = .ok (.getfield 16, 3) := by decide +kernel
theorem d11_further_15 : decode y11_further.2.1 15 = .ok (.iload_n 1, 1) := by decide +kernel
theorem d11_further_16 : decode y11_further.2.1 16 = .ok (.iaload, 1) := by decide +kernel
theorem d11_further_17 : decode y11_further.2.1 17 = .ok (.iadd, 1) := by decide +kernel
theorem d11_further_18 : decode y11_further.2.1 18 = .ok (.istore 5, 2) := by decide +kernel
theorem d11_further_20 : decode y11_further.2.1 20 = .ok (.aload_n 0, 1) := by decide +kernel
theorem d11_further_21 : decode y11_further.2.1 21 = .ok (.getfield 19, 3) := by decide +kernel
theorem d11_further_24 : decode y11_further.2.1 24 = .ok (.iload_n 1, 1) := by decide +kernel
theorem d11_further_25 : decode y11_further.2.1 25 = .ok (.iaload, 1) := by decide +kernel
theorem d11_further_26 : decode y11_further.2.1 26 = .ok (.i2l, 1) := by decide +kernel
theorem d11_further_27 : decode y11_further.2.1 27 = .ok (.lstore 6, 2) := by decide +kernel
theorem d11_further_29 : decode y11_further.2.1 29 = .ok (.aload_n 0, 1) := by decide +kernel
theorem d11_further_30 : decode y11_further.2.1 30 = .ok (.getfield 7, 3) := by decide +kernel
theorem d11_further_33 : decode y11_further.2.1 33 = .ok (.iload_n 1, 1) := by decide +kernel
theorem d11_further_34 : decode y11_further.2.1 34 = .ok (.iaload, 1) := by decide +kernel
theorem d11_further_35 : decode y11_further.2.1 35 = .ok (.tableswitch 310 1 16 #[77, 93, 310, 310, 114, 134, 148, 173, 188, 310, 173, 310, 310, 203, 251, 284], 77) := by decide +kernel
theorem d11_further_112 : decode y11_further.2.1 112 = .ok (.aload_n 0, 1) := by decide +kernel
theorem d11_further_113 : decode y11_further.2.1 113 = .ok (.iload_n 3, 1) := by decide +kernel
theorem d11_further_114 : decode y11_further.2.1 114 = .ok (.iload 4, 2) := by decide +kernel
theorem d11_further_116 : decode y11_further.2.1 116 = .ok (.iconst 0, 1) := by decide +kernel
theorem d11_further_117 : decode y11_further.2.1 117 = .ok (.lload 6, 2) := by decide +kernel
theorem d11_further_119 : decode y11_further.2.1 119 = .ok (.lload 6, 2) := by decide +kernel
theorem d11_further_121 : decode y11_further.2.1 121 = .ok (.lneg, 1) := by decide +kernel
theorem d11_further_122 : decode y11_further.2.1 122 = .ok (.invokevirtual 111, 3) := by decide +kernel
theorem d11_further_125 : decode y11_further.2.1 125 = .ok (.goto 220, 3) := by decide +kernel
theorem d11_further_128 : decode y11_further.2.1 128 = .ok (.iload 4, 2) := by decide +kernel
theorem d11_further_130 : decode y11_further.2.1 130 = .ok (.iload 5, 2) := by decide +kernel
theorem d11_further_132 : decode y11_further.2.1 132 = .ok (.if_icmp .eq 213, 3) := by decide +kernel
theorem d11_further_135 : decode y11_further.2.1 135 = .ok (.aload_n 0, 1) := by decide +kernel
theorem d11_further_136 : decode y11_further.2.1 136 = .ok (.iload_n 3, 1) := by decide +kernel
theorem d11_further_137 : decode y11_further.2.1 137 = .ok (.iload 4, 2) := by decide +kernel
theorem d11_further_139 : decode y11_further.2.1 139 = .ok (.iload 5, 2) := by decide +kernel
theorem d11_further_141 : decode y11_further.2.1 141 = .ok (.lconst 0, 1) := by decide +kernel
theorem d11_further_142 : decode y11_further.2.1 142 = .ok (.lconst 0, 1) := by decide +kernel
theorem d11_further_143 : decode y11_further.2.1 143 = .ok (.invokevirtual 111, 3) := by decide +kernel
theorem d11_further_146 : decode y11_further.2.1 146 = .ok (.goto 199, 3) := by decide +kernel
theorem d11_further_149 : decode y11_further.2.1 149 = .ok (.iload 4, 2) := by decide +kernel
theorem d11_further_151 : decode y11_further.2.1 151 = .ok (.iload 5, 2) := by decide +kernel
theorem d11_further_153 : decode y11_further.2.1 153 = .ok (.if_icmp .ne 192, 3) := by decide +kernel
theorem d11_further_156 : decode y11_further.2.1 156 = .ok (.aload_n 0, 1) := by decide +kernel
theorem d11_further_157 : decode y11_further.2.1 157 = .ok (.iload_n 3, 1) := by decide +kernel
theorem d11_further_158 : decode y11_further.2.1 158 = .ok (.iload 4, 2) := by decide +kernel
theorem d11_further_160 : decode y11_further.2.1 160 = .ok (.iconst 0, 1) := by decide +kernel
theorem d11_further_161 : decode y11_further.2.1 161 = .ok (.lconst 0, 1) := by decide +kernel
theorem d11_further_162 : decode y11_further.2.1 162 = .ok (.lconst 0, 1) := by decide +kernel
theorem d11_further_163 : decode y11_further.2.1 163 = .ok (.invokevirtual 111, 3) := by decide +kernel
theorem d11_further_166 : decode y11_further.2.1 166 = .ok (.goto 179, 3) := by decide +kernel
theorem d11_further_169 : decode y11_further.2.1 169 = .ok (.aload_n 0, 1) := by decide +kernel
theorem d11_further_170 : decode y11_further.2.1 170 = .ok (.iload_n 3, 1) := by decide +kernel
theorem d11_further_171 : decode y11_further.2.1 171 = .ok (.iload 4, 2) := by decide +kernel
theorem d11_further_173 : decode y11_further.2.1 173 = .ok (.iconst 0, 1) := by decide +kernel
theorem d11_further_174 : decode y11_further.2.1 174 = .ok (.lload 6, 2) := by decide +kernel
theorem d11_further_176 : decode y11_further.2.1 176 = .ok (.lconst 0, 1) := by decide +kernel
theorem d11_further_177 : decode y11_further.2.1 177 = .ok (.invokevirtual 111, 3) := by decide +kernel
theorem d11_further_180 : decode y11_further.2.1 180 = .ok (.goto 165, 3) := by decide +kernel
theorem d11_further_183 : decode y11_further.2.1 183 = .ok (.aload_n 0, 1) := by decide +kernel
theorem d11_further_184 : decode y11_further.2.1 184 = .ok (.iload_n 3, 1) := by decide +kernel
theorem d11_further_185 : decode y11_further.2.1 185 = .ok (.iload 4, 2) := by decide +kernel
theorem d11_further_187 : decode y11_further.2.1 187 = .ok (.iconst 0, 1) := by decide +kernel
theorem d11_further_188 : decode y11_further.2.1 188 = .ok (.lconst 1, 1) := by decide +kernel
theorem d11_further_189 : decode y11_further.2.1 189 = .ok (.bipush 32, 2) := by decide +kernel
theorem d11_further_191 : decode y11_further.2.1 191 = .ok (.aload_n 0, 1) := by decide +kernel
theorem d11_further_192 : decode y11_further.2.1 192 = .ok (.getfield 19, 3) := by decide +kernel
theorem d11_further_195 : decode y11_further.2.1 195 = .ok (.iload_n 1, 1) := by decide +kernel
theorem d11_further_196 : decode y11_further.2.1 196 = .ok (.iaload, 1) := by decide +kernel
theorem d11_further_197 : decode y11_further.2.1 197 = .ok (.isub, 1) := by decide +kernel
theorem d11_further_198 : decode y11_further.2.1 198 = .ok (.lshl, 1) := by decide +kernel
theorem d11_further_199 : decode y11_further.2.1 199 = .ok (.lconst 1, 1) := by decide +kernel
theorem d11_further_200 : decode y11_further.2.1 200 = .ok (.lsub, 1) := by decide +kernel
theorem d11_further_201 : decode y11_further.2.1 201 = .ok (.lconst 0, 1) := by decide +kernel
theorem d11_further_202 : decode y11_further.2.1 202 = .ok (.invokevirtual 111, 3) := by decide +kernel
theorem d11_further_205 : decode y11_further.2.1 205 = .ok (.goto 140, 3) := by decide +kernel
theorem d11_further_208 : decode y11_further.2.1 208 = .ok (.aload_n 0, 1) := by decide +kernel
theorem d11_further_209 : decode y11_further.2.1 209 = .ok (.iload_n 3, 1) := by decide +kernel
theorem d11_further_210 : decode y11_further.2.1 210 = .ok (.iload 4, 2) := by decide +kernel
theorem d11_further_212 : decode y11_further.2.1 212 = .ok (.iconst 0, 1) := by decide +kernel
theorem d11_further_213 : decode y11_further.2.1 213 = .ok (.ldc2_w 115, 3) := by decide +kernel
theorem d11_further_216 : decode y11_further.2.1 216 = .ok (.lconst 0, 1) := by decide +kernel
theorem d11_further_217 : decode y11_further.2.1 217 = .ok (.invokevirtual 111, 3) := by decide +kernel
theorem d11_further_220 : decode y11_further.2.1 220 = .ok (.goto 125, 3) := by decide +kernel
theorem d11_further_223 : decode y11_further.2.1 223 = .ok (.aload_n 0, 1) := by decide +kernel
theorem d11_further_224 : decode y11_further.2.1 224 = .ok (.iload_n 3, 1) := by decide +kernel
theorem d11_further_225 : decode y11_further.2.1 225 = .ok (.iload 4, 2) := by decide +kernel
theorem d11_further_227 : decode y11_further.2.1 227 = .ok (.iconst 0, 1) := by decide +kernel
theorem d11_further_228 : decode y11_further.2.1 228 = .ok (.ldc2_w 117, 3) := by decide +kernel
theorem d11_further_231 : decode y11_further.2.1 231 = .ok (.lconst 0, 1) := by decide +kernel
theorem d11_further_232 : decode y11_further.2.1 232 = .ok (.invokevirtual 111, 3) := by decide +kernel
theorem d11_further_235 : decode y11_further.2.1 235 = .ok (.goto 110, 3) := by decide +kernel
theorem d11_further_238 : decode y11_further.2.1 238 = .ok (.iload 4, 2) := by decide +kernel
theorem d11_further_240 : decode y11_further.2.1 240 = .ok (.iload 5, 2) := by decide +kernel
theorem d11_further_242 : decode y11_further.2.1 242 = .ok (.if_icmp .eq 17, 3) := by decide +kernel
theorem d11_further_245 : decode y11_further.2.1 245 = .ok (.iload_n 2, 1) := by decide +kernel
theorem d11_further_246 : decode y11_further.2.1 246 = .ok (.ifCond .ne 13, 3) := by decide +kernel
theorem d11_further_249 : decode y11_further.2.1 249 = .ok (.aload_n 0, 1) := by decide +kernel
theorem d11_further_250 : decode y11_further.2.1 250 = .ok (.iload_n 3, 1) := by decide +kernel
theorem d11_further_251 : decode y11_further.2.1 251 = .ok (.iload 5, 2) := by decide +kernel
theorem d11_further_253 : decode y11_further.2.1 253 = .ok (.iload 4, 2) := by decide +kernel
theorem d11_further_255 : decode y11_further.2.1 255 = .ok (.lconst 0, 1) := by decide +kernel
theorem d11_further_256 : decode y11_further.2.1 256 = .ok (.invokevirtual 107, 3) := by decide +kernel
theorem d11_further_259 : decode y11_further.2.1 259 = .ok (.iload 4, 2) := by decide +kernel
theorem d11_further_261 : decode y11_further.2.1 261 = .ok (.iload 5, 2) := by decide +kernel
theorem d11_further_263 : decode y11_further.2.1 263 = .ok (.if_icmp .eq 82, 3) := by decide +kernel
theorem d11_further_266 : decode y11_further.2.1 266 = .ok (.iload_n 2, 1) := by decide +kernel
theorem d11_further_267 : decode y11_further.2.1 267 = .ok (.iconst 1, 1) := by decide +kernel
theorem d11_further_268 : decode y11_further.2.1 268 = .ok (.if_icmp .ne 77, 3) := by decide +kernel
theorem d11_further_271 : decode y11_further.2.1 271 = .ok (.aload_n 0, 1) := by decide +kernel
theorem d11_further_272 : decode y11_further.2.1 272 = .ok (.iload_n 3, 1) := by decide +kernel
theorem d11_further_273 : decode y11_further.2.1 273 = .ok (.iload 4, 2) := by decide +kernel
theorem d11_further_275 : decode y11_further.2.1 275 = .ok (.iload 5, 2) := by decide +kernel
theorem d11_further_277 : decode y11_further.2.1 277 = .ok (.ldc2_w 119, 3) := by decide +kernel
theorem d11_further_280 : decode y11_further.2.1 280 = .ok (.invokevirtual 107, 3) := by decide +kernel
theorem d11_further_283 : decode y11_further.2.1 283 = .ok (.goto 62, 3) := by decide +kernel
theorem d11_further_286 : decode y11_further.2.1 286 = .ok (.iload_n 2, 1) := by decide +kernel
theorem d11_further_287 : decode y11_further.2.1 287 = .ok (.ifCond .ne 17, 3) := by decide +kernel
theorem d11_further_290 : decode y11_further.2.1 290 = .ok (.aload_n 0, 1) := by decide +kernel
theorem d11_further_291 : decode y11_further.2.1 291 = .ok (.iload_n 3, 1) := by decide +kernel
theorem d11_further_292 : decode y11_further.2.1 292 = .ok (.iconst 0, 1) := by decide +kernel
theorem d11_further_293 : decode y11_further.2.1 293 = .ok (.iload 4, 2) := by decide +kernel
theorem d11_further_295 : decode y11_further.2.1 295 = .ok (.lload 6, 2) := by decide +kernel
theorem d11_further_297 : decode y11_further.2.1 297 = .ok (.lneg, 1) := by decide +kernel
theorem d11_further_298 : decode y11_further.2.1 298 = .ok (.invokevirtual 107, 3) := by decide +kernel
theorem d11_further_301 : decode y11_further.2.1 301 = .ok (.goto 44, 3) := by decide +kernel
theorem d11_further_304 : decode y11_further.2.1 304 = .ok (.aload_n 0, 1) := by decide +kernel
theorem d11_further_305 : decode y11_further.2.1 305 = .ok (.iload_n 3, 1) := by decide +kernel
theorem d11_further_306 : decode y11_further.2.1 306 = .ok (.iload 4, 2) := by decide +kernel
theorem d11_further_308 : decode y11_further.2.1 308 = .ok (.iconst 0, 1) := by decide +kernel
theorem d11_further_309 : decode y11_further.2.1 309 = .ok (.lload 6, 2) := by decide +kernel
theorem d11_further_311 : decode y11_further.2.1 311 = .ok (.lconst 1, 1) := by decide +kernel
theorem d11_further_312 : decode y11_further.2.1 312 = .ok (.lsub, 1) := by decide +kernel
theorem d11_further_313 : decode y11_further.2.1 313 = .ok (.invokevirtual 107, 3) := by decide +kernel
theorem d11_further_316 : decode y11_further.2.1 316 = .ok (.goto 29, 3) := by decide +kernel
theorem d11_further_319 : decode y11_further.2.1 319 = .ok (.iload 4, 2) := by decide +kernel
theorem d11_further_321 : decode y11_further.2.1 321 = .ok (.iload 5, 2) := by decide +kernel
theorem d11_further_323 : decode y11_further.2.1 323 = .ok (.if_icmp .eq 22, 3) := by decide +kernel
theorem d11_further_326 : decode y11_further.2.1 326 = .ok (.iload_n 2, 1) := by decide +kernel
theorem d11_further_327 : decode y11_further.2.1 327 = .ok (.iconst 1, 1) := by decide +kernel
theorem d11_further_328 : decode y11_further.2.1 328 = .ok (.if_icmp .ne 17, 3) := by decide +kernel
theorem d11_further_331 : decode y11_further.2.1 331 = .ok (.aload_n 0, 1) := by decide +kernel
theorem d11_further_332 : decode y11_further.2.1 332 = .ok (.iload_n 3, 1) := by decide +kernel
theorem d11_further_333 : decode y11_further.2.1 333 = .ok (.iload 4, 2) := by decide +kernel
theorem d11_further_335 : decode y11_further.2.1 335 = .ok (.iload 5, 2) := by decide +kernel
theorem d11_further_337 : decode y11_further.2.1 337 = .ok (.lconst 0, 1) := by decide +kernel
theorem d11_further_338 : decode y11_further.2.1 338 = .ok (.lconst 0, 1) := by decide +kernel
theorem d11_further_339 : decode y11_further.2.1 339 = .ok (.invokevirtual 111, 3) := by decide +kernel
theorem d11_further_342 : decode y11_further.2.1 342 = .ok (.goto 3, 3) := by decide +kernel
theorem d11_further_345 : decode y11_further.2.1 345 = .ok (.return_, 1) := by decide +kernel
theorem d11_sumOf_0 : decode y11_sumOf.2.1 0 = .ok (.aload_n 0, 1) := by decide +kernel
theorem d11_sumOf_1 : decode y11_sumOf.2.1 1 = .ok (.getfield 49, 3) := by decide +kernel
theorem d11_sumOf_4 : decode y11_sumOf.2.1 4 = .ok (.bipush 100, 2) := by decide +kernel
theorem d11_sumOf_6 : decode y11_sumOf.2.1 6 = .ok (.iload_n 1, 1) := by decide +kernel
theorem d11_sumOf_7 : decode y11_sumOf.2.1 7 = .ok (.imul, 1) := by decide +kernel
theorem d11_sumOf_8 : decode y11_sumOf.2.1 8 = .ok (.iload_n 2, 1) := by decide +kernel
theorem d11_sumOf_9 : decode y11_sumOf.2.1 9 = .ok (.iadd, 1) := by decide +kernel
theorem d11_sumOf_10 : decode y11_sumOf.2.1 10 = .ok (.laload, 1) := by decide +kernel
theorem d11_sumOf_11 : decode y11_sumOf.2.1 11 = .ok (.lstore 4, 2) := by decide +kernel
theorem d11_sumOf_13 : decode y11_sumOf.2.1 13 = .ok (.aload_n 0, 1) := by decide +kernel
theorem d11_sumOf_14 : decode y11_sumOf.2.1 14 = .ok (.getfield 49, 3) := by decide +kernel
theorem d11_sumOf_17 : decode y11_sumOf.2.1 17 = .ok (.bipush 100, 2) := by decide +kernel
theorem d11_sumOf_19 : decode y11_sumOf.2.1 19 = .ok (.iload_n 1, 1) := by decide +kernel
theorem d11_sumOf_20 : decode y11_sumOf.2.1 20 = .ok (.imul, 1) := by decide +kernel
theorem d11_sumOf_21 : decode y11_sumOf.2.1 21 = .ok (.iload_n 3, 1) := by decide +kernel
theorem d11_sumOf_22 : decode y11_sumOf.2.1 22 = .ok (.iadd, 1) := by decide +kernel
theorem d11_sumOf_23 : decode y11_sumOf.2.1 23 = .ok (.laload, 1) := by decide +kernel
theorem d11_sumOf_24 : decode y11_sumOf.2.1 24 = .ok (.lstore 6, 2) := by decide +kernel
theorem d11_sumOf_26 : decode y11_sumOf.2.1 26 = .ok (.lload 4, 2) := by decide +kernel
theorem d11_sumOf_28 : decode y11_sumOf.2.1 28 = .ok (.ldc2_w 123, 3) := by decide +kernel
theorem d11_sumOf_31 : decode y11_sumOf.2.1 31 = .ok (.lcmp, 1) := by decide +kernel
theorem d11_sumOf_32 : decode y11_sumOf.2.1 32 = .ok (.ifCond .ge 62, 3) := by decide +kernel
theorem d11_sumOf_35 : decode y11_sumOf.2.1 35 = .ok (.lload 6, 2) := by decide +kernel
theorem d11_sumOf_37 : decode y11_sumOf.2.1 37 = .ok (.ldc2_w 123, 3) := by decide +kernel
theorem d11_sumOf_40 : decode y11_sumOf.2.1 40 = .ok (.lcmp, 1) := by decide +kernel
theorem d11_sumOf_41 : decode y11_sumOf.2.1 41 = .ok (.ifCond .ge 53, 3) := by decide +kernel
theorem d11_sumOf_44 : decode y11_sumOf.2.1 44 = .ok (.aload_n 0, 1) := by decide +kernel
theorem d11_sumOf_45 : decode y11_sumOf.2.1 45 = .ok (.iload_n 1, 1) := by decide +kernel
theorem d11_sumOf_46 : decode y11_sumOf.2.1 46 = .ok (.iload_n 2, 1) := by decide +kernel
theorem d11_sumOf_47 : decode y11_sumOf.2.1 47 = .ok (.bipush 10, 2) := by decide +kernel
theorem d11_sumOf_49 : decode y11_sumOf.2.1 49 = .ok (.idiv, 1) := by decide +kernel
theorem d11_sumOf_50 : decode y11_sumOf.2.1 50 = .ok (.iload_n 2, 1) := by decide +kernel
theorem d11_sumOf_51 : decode y11_sumOf.2.1 51 = .ok (.bipush 10, 2) := by decide +kernel
theorem d11_sumOf_53 : decode y11_sumOf.2.1 53 = .ok (.irem, 1) := by decide +kernel
theorem d11_sumOf_54 : decode y11_sumOf.2.1 54 = .ok (.iload_n 3, 1) := by decide +kernel
theorem d11_sumOf_55 : decode y11_sumOf.2.1 55 = .ok (.bipush 10, 2) := by decide +kernel
theorem d11_sumOf_57 : decode y11_sumOf.2.1 57 = .ok (.idiv, 1) := by decide +kernel
theorem d11_sumOf_58 : decode y11_sumOf.2.1 58 = .ok (.iload_n 3, 1) := by decide +kernel
theorem d11_sumOf_59 : decode y11_sumOf.2.1 59 = .ok (.bipush 10, 2) := by decide +kernel
theorem d11_sumOf_61 : decode y11_sumOf.2.1 61 = .ok (.irem, 1) := by decide +kernel
theorem d11_sumOf_62 : decode y11_sumOf.2.1 62 = .ok (.invokevirtual 144, 3) := by decide +kernel
theorem d11_sumOf_65 : decode y11_sumOf.2.1 65 = .ok (.ifCond .eq 29, 3) := by decide +kernel
theorem d11_sumOf_68 : decode y11_sumOf.2.1 68 = .ok (.aload_n 0, 1) := by decide +kernel
theorem d11_sumOf_69 : decode y11_sumOf.2.1 69 = .ok (.bipush 100, 2) := by decide +kernel
theorem d11_sumOf_71 : decode y11_sumOf.2.1 71 = .ok (.bipush 100, 2) := by decide +kernel
theorem d11_sumOf_73 : decode y11_sumOf.2.1 73 = .ok (.iload_n 2, 1) := by decide +kernel
theorem d11_sumOf_74 : decode y11_sumOf.2.1 74 = .ok (.imul, 1) := by decide +kernel
theorem d11_sumOf_75 : decode y11_sumOf.2.1 75 = .ok (.iadd, 1) := by decide +kernel
theorem d11_sumOf_76 : decode y11_sumOf.2.1 76 = .ok (.iload_n 3, 1) := by decide +kernel
theorem d11_sumOf_77 : decode y11_sumOf.2.1 77 = .ok (.iadd, 1) := by decide +kernel
theorem d11_sumOf_78 : decode y11_sumOf.2.1 78 = .ok (.iload_n 2, 1) := by decide +kernel
theorem d11_sumOf_79 : decode y11_sumOf.2.1 79 = .ok (.bipush 10, 2) := by decide +kernel
theorem d11_sumOf_81 : decode y11_sumOf.2.1 81 = .ok (.idiv, 1) := by decide +kernel
theorem d11_sumOf_82 : decode y11_sumOf.2.1 82 = .ok (.iload_n 2, 1) := by decide +kernel
theorem d11_sumOf_83 : decode y11_sumOf.2.1 83 = .ok (.bipush 10, 2) := by decide +kernel
theorem d11_sumOf_85 : decode y11_sumOf.2.1 85 = .ok (.irem, 1) := by decide +kernel
theorem d11_sumOf_86 : decode y11_sumOf.2.1 86 = .ok (.lload 4, 2) := by decide +kernel
theorem d11_sumOf_88 : decode y11_sumOf.2.1 88 = .ok (.lload 6, 2) := by decide +kernel
theorem d11_sumOf_90 : decode y11_sumOf.2.1 90 = .ok (.ladd, 1) := by decide +kernel
theorem d11_sumOf_91 : decode y11_sumOf.2.1 91 = .ok (.invokevirtual 107, 3) := by decide +kernel
theorem d11_sumOf_94 : decode y11_sumOf.2.1 94 = .ok (.return_, 1) := by decide +kernel
theorem d11_isSum_0 : decode y11_isSum.2.1 0 = .ok (.iconst 1, 1) := by decide +kernel
theorem d11_isSum_1 : decode y11_isSum.2.1 1 = .ok (.aload_n 0, 1) := by decide +kernel
theorem d11_isSum_2 : decode y11_isSum.2.1 2 = .ok (.getfield 13, 3) := by decide +kernel
theorem d11_isSum_5 : decode y11_isSum.2.1 5 = .ok (.iload_n 1, 1) := by decide +kernel
theorem d11_isSum_6 : decode y11_isSum.2.1 6 = .ok (.iaload, 1) := by decide +kernel
theorem d11_isSum_7 : decode y11_isSum.2.1 7 = .ok (.iadd, 1) := by decide +kernel
theorem d11_isSum_8 : decode y11_isSum.2.1 8 = .ok (.istore 6, 2) := by decide +kernel
theorem d11_isSum_10 : decode y11_isSum.2.1 10 = .ok (.iconst 1, 1) := by decide +kernel
theorem d11_isSum_11 : decode y11_isSum.2.1 11 = .ok (.aload_n 0, 1) := by decide +kernel
theorem d11_isSum_12 : decode y11_isSum.2.1 12 = .ok (.getfield 16, 3) := by decide +kernel
theorem d11_isSum_15 : decode y11_isSum.2.1 15 = .ok (.iload_n 1, 1) := by decide +kernel
theorem d11_isSum_16 : decode y11_isSum.2.1 16 = .ok (.iaload, 1) := by decide +kernel
theorem d11_isSum_17 : decode y11_isSum.2.1 17 = .ok (.iadd, 1) := by decide +kernel
theorem d11_isSum_18 : decode y11_isSum.2.1 18 = .ok (.istore 7, 2) := by decide +kernel
theorem d11_isSum_20 : decode y11_isSum.2.1 20 = .ok (.iload 6, 2) := by decide +kernel
theorem d11_isSum_22 : decode y11_isSum.2.1 22 = .ok (.iload 7, 2) := by decide +kernel
theorem d11_isSum_24 : decode y11_isSum.2.1 24 = .ok (.if_icmp .ne 5, 3) := by decide +kernel
theorem d11_isSum_27 : decode y11_isSum.2.1 27 = .ok (.iconst 0, 1) := by decide +kernel
theorem d11_isSum_28 : decode y11_isSum.2.1 28 = .ok (.ireturn, 1) := by decide +kernel
theorem d11_isSum_29 : decode y11_isSum.2.1 29 = .ok (.iload_n 2, 1) := by decide +kernel
theorem d11_isSum_30 : decode y11_isSum.2.1 30 = .ok (.iload 6, 2) := by decide +kernel
theorem d11_isSum_32 : decode y11_isSum.2.1 32 = .ok (.if_icmp .ne 21, 3) := by decide +kernel
theorem d11_isSum_35 : decode y11_isSum.2.1 35 = .ok (.iload_n 3, 1) := by decide +kernel
theorem d11_isSum_36 : decode y11_isSum.2.1 36 = .ok (.iload 7, 2) := by decide +kernel
theorem d11_isSum_38 : decode y11_isSum.2.1 38 = .ok (.if_icmp .eq 15, 3) := by decide +kernel
theorem d11_isSum_41 : decode y11_isSum.2.1 41 = .ok (.iload 4, 2) := by decide +kernel
theorem d11_isSum_43 : decode y11_isSum.2.1 43 = .ok (.iload 7, 2) := by decide +kernel
theorem d11_isSum_45 : decode y11_isSum.2.1 45 = .ok (.if_icmp .ne 8, 3) := by decide +kernel
theorem d11_isSum_48 : decode y11_isSum.2.1 48 = .ok (.iload 5, 2) := by decide +kernel
theorem d11_isSum_50 : decode y11_isSum.2.1 50 = .ok (.ifCond .eq 27, 3) := by decide +kernel
theorem d11_isSum_53 : decode y11_isSum.2.1 53 = .ok (.iload_n 3, 1) := by decide +kernel
theorem d11_isSum_54 : decode y11_isSum.2.1 54 = .ok (.iload 6, 2) := by decide +kernel
theorem d11_isSum_56 : decode y11_isSum.2.1 56 = .ok (.if_icmp .ne 25, 3) := by decide +kernel
theorem d11_isSum_59 : decode y11_isSum.2.1 59 = .ok (.iload_n 2, 1) := by decide +kernel
theorem d11_isSum_60 : decode y11_isSum.2.1 60 = .ok (.iload 7, 2) := by decide +kernel
theorem d11_isSum_62 : decode y11_isSum.2.1 62 = .ok (.if_icmp .eq 19, 3) := by decide +kernel
theorem d11_isSum_65 : decode y11_isSum.2.1 65 = .ok (.iload 4, 2) := by decide +kernel
theorem d11_isSum_67 : decode y11_isSum.2.1 67 = .ok (.ifCond .ne 14, 3) := by decide +kernel
theorem d11_isSum_70 : decode y11_isSum.2.1 70 = .ok (.iload 5, 2) := by decide +kernel
theorem d11_isSum_72 : decode y11_isSum.2.1 72 = .ok (.iload 7, 2) := by decide +kernel
theorem d11_isSum_74 : decode y11_isSum.2.1 74 = .ok (.if_icmp .ne 7, 3) := by decide +kernel
theorem d11_isSum_77 : decode y11_isSum.2.1 77 = .ok (.iconst 1, 1) := by decide +kernel
theorem d11_isSum_78 : decode y11_isSum.2.1 78 = .ok (.goto 4, 3) := by decide +kernel
theorem d11_isSum_81 : decode y11_isSum.2.1 81 = .ok (.iconst 0, 1) := by decide +kernel
theorem d11_isSum_82 : decode y11_isSum.2.1 82 = .ok (.ireturn, 1) := by decide +kernel
theorem d11_need_0 : decode y11_need.2.1 0 = .ok (.iconst 0, 1) := by decide +kernel
theorem d11_need_1 : decode y11_need.2.1 1 = .ok (.istore_n 2, 1) := by decide +kernel
theorem d11_need_2 : decode y11_need.2.1 2 = .ok (.iload_n 2, 1) := by decide +kernel
theorem d11_need_3 : decode y11_need.2.1 3 = .ok (.iconst 2, 1) := by decide +kernel
theorem d11_need_4 : decode y11_need.2.1 4 = .ok (.if_icmp .ge 33, 3) := by decide +kernel
theorem d11_need_7 : decode y11_need.2.1 7 = .ok (.aload_n 0, 1) := by decide +kernel
theorem d11_need_8 : decode y11_need.2.1 8 = .ok (.iload_n 1, 1) := by decide +kernel
theorem d11_need_9 : decode y11_need.2.1 9 = .ok (.invokevirtual 190, 3) := by decide +kernel
theorem d11_need_12 : decode y11_need.2.1 12 = .ok (.ifCond .eq 25, 3) := by decide +kernel
theorem d11_need_15 : decode y11_need.2.1 15 = .ok (.aload_n 0, 1) := by decide +kernel
theorem d11_need_16 : decode y11_need.2.1 16 = .ok (.iload_n 1, 1) := by decide +kernel
theorem d11_need_17 : decode y11_need.2.1 17 = .ok (.iload_n 2, 1) := by decide +kernel
theorem d11_need_18 : decode y11_need.2.1 18 = .ok (.invokevirtual 193, 3) := by decide +kernel
theorem d11_need_21 : decode y11_need.2.1 21 = .ok (.ifCond .ne 5, 3) := by decide +kernel
theorem d11_need_24 : decode y11_need.2.1 24 = .ok (.iconst 0, 1) := by decide +kernel
theorem d11_need_25 : decode y11_need.2.1 25 = .ok (.ireturn, 1) := by decide +kernel
theorem d11_need_26 : decode y11_need.2.1 26 = .ok (.aload_n 0, 1) := by decide +kernel
theorem d11_need_27 : decode y11_need.2.1 27 = .ok (.iload_n 1, 1) := by decide +kernel
theorem d11_need_28 : decode y11_need.2.1 28 = .ok (.invokevirtual 196, 3) := by decide +kernel
theorem d11_need_31 : decode y11_need.2.1 31 = .ok (.iinc 2 1, 3) := by decide +kernel
theorem d11_need_34 : decode y11_need.2.1 34 = .ok (.goto (-32), 3) := by decide +kernel
theorem d11_need_37 : decode y11_need.2.1 37 = .ok (.iconst 0, 1) := by decide +kernel
theorem d11_need_38 : decode y11_need.2.1 38 = .ok (.istore_n 2, 1) := by decide +kernel
theorem d11_need_39 : decode y11_need.2.1 39 = .ok (.iload_n 2, 1) := by decide +kernel
theorem d11_need_40 : decode y11_need.2.1 40 = .ok (.iconst 2, 1) := by decide +kernel
theorem d11_need_41 : decode y11_need.2.1 41 = .ok (.if_icmp .ge 129, 3) := by decide +kernel
theorem d11_need_44 : decode y11_need.2.1 44 = .ok (.aload_n 0, 1) := by decide +kernel
theorem d11_need_45 : decode y11_need.2.1 45 = .ok (.iload_n 1, 1) := by decide +kernel
theorem d11_need_46 : decode y11_need.2.1 46 = .ok (.iload_n 2, 1) := by decide +kernel
theorem d11_need_47 : decode y11_need.2.1 47 = .ok (.invokevirtual 159, 3) := by decide +kernel
theorem d11_need_50 : decode y11_need.2.1 50 = .ok (.istore_n 3, 1) := by decide +kernel
theorem d11_need_51 : decode y11_need.2.1 51 = .ok (.iload_n 3, 1) := by decide +kernel
theorem d11_need_52 : decode y11_need.2.1 52 = .ok (.ifCond .ge 6, 3) := by decide +kernel
theorem d11_need_55 : decode y11_need.2.1 55 = .ok (.goto 109, 3) := by decide +kernel
theorem d11_need_58 : decode y11_need.2.1 58 = .ok (.aload_n 0, 1) := by decide +kernel
theorem d11_need_59 : decode y11_need.2.1 59 = .ok (.iload_n 1, 1) := by decide +kernel
theorem d11_need_60 : decode y11_need.2.1 60 = .ok (.iload_n 2, 1) := by decide +kernel
theorem d11_need_61 : decode y11_need.2.1 61 = .ok (.invokevirtual 163, 3) := by decide +kernel
theorem d11_need_64 : decode y11_need.2.1 64 = .ok (.aload_n 0, 1) := by decide +kernel
theorem d11_need_65 : decode y11_need.2.1 65 = .ok (.getfield 56, 3) := by decide +kernel
theorem d11_need_68 : decode y11_need.2.1 68 = .ok (.iconst 2, 1) := by decide +kernel
theorem d11_need_69 : decode y11_need.2.1 69 = .ok (.iload_n 1, 1) := by decide +kernel
theorem d11_need_70 : decode y11_need.2.1 70 = .ok (.imul, 1) := by decide +kernel
theorem d11_need_71 : decode y11_need.2.1 71 = .ok (.iload_n 2, 1) := by decide +kernel
theorem d11_need_72 : decode y11_need.2.1 72 = .ok (.iadd, 1) := by decide +kernel
theorem d11_need_73 : decode y11_need.2.1 73 = .ok (.baload, 1) := by decide +kernel
theorem d11_need_74 : decode y11_need.2.1 74 = .ok (.ifCond .eq 20, 3) := by decide +kernel
theorem d11_need_77 : decode y11_need.2.1 77 = .ok (.aload_n 0, 1) := by decide +kernel
theorem d11_need_78 : decode y11_need.2.1 78 = .ok (.invokevirtual 199, 3) := by decide +kernel
theorem d11_need_81 : decode y11_need.2.1 81 = .ok (.ifCond .ge 5, 3) := by decide +kernel
theorem d11_need_84 : decode y11_need.2.1 84 = .ok (.iconst 0, 1) := by decide +kernel
theorem d11_need_85 : decode y11_need.2.1 85 = .ok (.ireturn, 1) := by decide +kernel
theorem d11_need_86 : decode y11_need.2.1 86 = .ok (.aload_n 0, 1) := by decide +kernel
theorem d11_need_87 : decode y11_need.2.1 87 = .ok (.iload_n 1, 1) := by decide +kernel
theorem d11_need_88 : decode y11_need.2.1 88 = .ok (.invokevirtual 196, 3) := by decide +kernel
theorem d11_need_91 : decode y11_need.2.1 91 = .ok (.goto 73, 3) := by decide +kernel
theorem d11_need_94 : decode y11_need.2.1 94 = .ok (.iconst 0, 1) := by decide +kernel
theorem d11_need_95 : decode y11_need.2.1 95 = .ok (.istore 4, 2) := by decide +kernel
theorem d11_need_97 : decode y11_need.2.1 97 = .ok (.iload 4, 2) := by decide +kernel
theorem d11_need_99 : decode y11_need.2.1 99 = .ok (.bipush 100, 2) := by decide +kernel
theorem d11_need_101 : decode y11_need.2.1 101 = .ok (.if_icmp .ge 63, 3) := by decide +kernel
theorem d11_need_104 : decode y11_need.2.1 104 = .ok (.aload_n 0, 1) := by decide +kernel
theorem d11_need_105 : decode y11_need.2.1 105 = .ok (.getfield 68, 3) := by decide +kernel
theorem d11_need_108 : decode y11_need.2.1 108 = .ok (.bipush 100, 2) := by decide +kernel
theorem d11_need_110 : decode y11_need.2.1 110 = .ok (.iload_n 3, 1) := by decide +kernel
theorem d11_need_111 : decode y11_need.2.1 111 = .ok (.imul, 1) := by decide +kernel
theorem d11_need_112 : decode y11_need.2.1 112 = .ok (.iload 4, 2) := by decide +kernel
theorem d11_need_114 : decode y11_need.2.1 114 = .ok (.iadd, 1) := by decide +kernel
theorem d11_need_115 : decode y11_need.2.1 115 = .ok (.baload, 1) := by decide +kernel
theorem d11_need_116 : decode y11_need.2.1 116 = .ok (.ifCond .ne 6, 3) := by decide +kernel
theorem d11_need_119 : decode y11_need.2.1 119 = .ok (.goto 39, 3) := by decide +kernel
theorem d11_need_122 : decode y11_need.2.1 122 = .ok (.aload_n 0, 1) := by decide +kernel
theorem d11_need_123 : decode y11_need.2.1 123 = .ok (.iload 4, 2) := by decide +kernel
theorem d11_need_125 : decode y11_need.2.1 125 = .ok (.bipush 10, 2) := by decide +kernel
theorem d11_need_127 : decode y11_need.2.1 127 = .ok (.idiv, 1) := by decide +kernel
theorem d11_need_128 : decode y11_need.2.1 128 = .ok (.iload 4, 2) := by decide +kernel
theorem d11_need_130 : decode y11_need.2.1 130 = .ok (.bipush 10, 2) := by decide +kernel
theorem d11_need_132 : decode y11_need.2.1 132 = .ok (.irem, 1) := by decide +kernel
theorem d11_need_133 : decode y11_need.2.1 133 = .ok (.aload_n 0, 1) := by decide +kernel
theorem d11_need_134 : decode y11_need.2.1 134 = .ok (.getfield 49, 3) := by decide +kernel
theorem d11_need_137 : decode y11_need.2.1 137 = .ok (.bipush 100, 2) := by decide +kernel
theorem d11_need_139 : decode y11_need.2.1 139 = .ok (.iload_n 3, 1) := by decide +kernel
theorem d11_need_140 : decode y11_need.2.1 140 = .ok (.imul, 1) := by decide +kernel
theorem d11_need_141 : decode y11_need.2.1 141 = .ok (.iload 4, 2) := by decide +kernel
theorem d11_need_143 : decode y11_need.2.1 143 = .ok (.iadd, 1) := by decide +kernel
theorem d11_need_144 : decode y11_need.2.1 144 = .ok (.laload, 1) := by decide +kernel
theorem d11_need_145 : decode y11_need.2.1 145 = .ok (.invokevirtual 173, 3) := by decide +kernel
theorem d11_need_148 : decode y11_need.2.1 148 = .ok (.ifCond .ne 5, 3) := by decide +kernel
theorem d11_need_151 : decode y11_need.2.1 151 = .ok (.iconst 0, 1) := by decide +kernel
theorem d11_need_152 : decode y11_need.2.1 152 = .ok (.ireturn, 1) := by decide +kernel
theorem d11_need_153 : decode y11_need.2.1 153 = .ok (.aload_n 0, 1) := by decide +kernel
theorem d11_need_154 : decode y11_need.2.1 154 = .ok (.iload_n 1, 1) := by decide +kernel
theorem d11_need_155 : decode y11_need.2.1 155 = .ok (.invokevirtual 196, 3) := by decide +kernel
theorem d11_need_158 : decode y11_need.2.1 158 = .ok (.iinc 4 1, 3) := by decide +kernel
theorem d11_need_161 : decode y11_need.2.1 161 = .ok (.goto (-64), 3) := by decide +kernel
theorem d11_need_164 : decode y11_need.2.1 164 = .ok (.iinc 2 1, 3) := by decide +kernel
theorem d11_need_167 : decode y11_need.2.1 167 = .ok (.goto (-128), 3) := by decide +kernel
theorem d11_need_170 : decode y11_need.2.1 170 = .ok (.aload_n 0, 1) := by decide +kernel
theorem d11_need_171 : decode y11_need.2.1 171 = .ok (.iload_n 1, 1) := by decide +kernel
theorem d11_need_172 : decode y11_need.2.1 172 = .ok (.invokevirtual 203, 3) := by decide +kernel
theorem d11_need_175 : decode y11_need.2.1 175 = .ok (.bipush 24, 2) := by decide +kernel
theorem d11_need_177 : decode y11_need.2.1 177 = .ok (.if_icmp .gt 7, 3) := by decide +kernel
theorem d11_need_180 : decode y11_need.2.1 180 = .ok (.iconst 1, 1) := by decide +kernel
theorem d11_need_181 : decode y11_need.2.1 181 = .ok (.goto 4, 3) := by decide +kernel
theorem d11_need_184 : decode y11_need.2.1 184 = .ok (.iconst 0, 1) := by decide +kernel
theorem d11_need_185 : decode y11_need.2.1 185 = .ok (.ireturn, 1) := by decide +kernel
