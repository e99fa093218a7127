theorem d5_giveEdges_0 : decode y5_giveEdges.2.1 0 = .ok (.aload_n 0, 1) := by decide +kernel
theorem d5_giveEdges_1 : decode y5_giveEdges.2.1 1 = .ok (.getfield 55, 3) := by decide +kernel
theorem d5_giveEdges_4 : decode y5_giveEdges.2.1 4 = .ok (.getfield 113, 3) := by decide +kernel
theorem d5_giveEdges_7 : decode y5_giveEdges.2.1 7 = .ok (.iload_n 1, 1) := by decide +kernel
theorem d5_giveEdges_8 : decode y5_giveEdges.2.1 8 = .ok (.aaload, 1) := by decide +kernel
theorem d5_giveEdges_9 : decode y5_giveEdges.2.1 9 = .ok (.astore_n 2, 1) := by decide +kernel
theorem d5_giveEdges_10 : decode y5_giveEdges.2.1 10 = .ok (.iconst 0, 1) := by decide +kernel
theorem d5_giveEdges_11 : decode y5_giveEdges.2.1 11 = .ok (.istore_n 3, 1) := by decide +kernel
theorem d5_giveEdges_12 : decode y5_giveEdges.2.1 12 = .ok (.iload_n 3, 1) := by decide +kernel
theorem d5_giveEdges_13 : decode y5_giveEdges.2.1 13 = .ok (.aload_n 2, 1) := by decide +kernel
theorem d5_giveEdges_14 : decode y5_giveEdges.2.1 14 = .ok (.invokevirtual 117, 3) := by decide +kernel
theorem d5_giveEdges_17 : decode y5_giveEdges.2.1 17 = .ok (.if_icmp .ge 77, 3) := by decide +kernel
theorem d5_giveEdges_20 : decode y5_giveEdges.2.1 20 = .ok (.aload_n 0, 1) := by decide +kernel
theorem d5_giveEdges_21 : decode y5_giveEdges.2.1 21 = .ok (.getfield 36, 3) := by decide +kernel
theorem d5_giveEdges_24 : decode y5_giveEdges.2.1 24 = .ok (.aload_n 2, 1) := by decide +kernel
theorem d5_giveEdges_25 : decode y5_giveEdges.2.1 25 = .ok (.iload_n 3, 1) := by decide +kernel
theorem d5_giveEdges_26 : decode y5_giveEdges.2.1 26 = .ok (.aload_n 0, 1) := by decide +kernel
theorem d5_giveEdges_27 : decode y5_giveEdges.2.1 27 = .ok (.getfield 11, 3) := by decide +kernel
theorem d5_giveEdges_30 : decode y5_giveEdges.2.1 30 = .ok (.iload_n 1, 1) := by decide +kernel
theorem d5_giveEdges_31 : decode y5_giveEdges.2.1 31 = .ok (.aaload, 1) := by decide +kernel
theorem d5_giveEdges_32 : decode y5_giveEdges.2.1 32 = .ok (.invokevirtual 123, 3) := by decide +kernel
theorem d5_giveEdges_35 : decode y5_giveEdges.2.1 35 = .ok (.aload_n 0, 1) := by decide +kernel
theorem d5_giveEdges_36 : decode y5_giveEdges.2.1 36 = .ok (.getfield 20, 3) := by decide +kernel
theorem d5_giveEdges_39 : decode y5_giveEdges.2.1 39 = .ok (.iconst 2, 1) := by decide +kernel
theorem d5_giveEdges_40 : decode y5_giveEdges.2.1 40 = .ok (.iload_n 1, 1) := by decide +kernel
theorem d5_giveEdges_41 : decode y5_giveEdges.2.1 41 = .ok (.imul, 1) := by decide +kernel
theorem d5_giveEdges_42 : decode y5_giveEdges.2.1 42 = .ok (.iload_n 3, 1) := by decide +kernel
theorem d5_giveEdges_43 : decode y5_giveEdges.2.1 43 = .ok (.iadd, 1) := by decide +kernel
theorem d5_giveEdges_44 : decode y5_giveEdges.2.1 44 = .ok (.baload, 1) := by decide +kernel
theorem d5_giveEdges_45 : decode y5_giveEdges.2.1 45 = .ok (.ifCond .eq 18, 3) := by decide +kernel
theorem d5_giveEdges_48 : decode y5_giveEdges.2.1 48 = .ok (.aload_n 0, 1) := by decide +kernel
theorem d5_giveEdges_49 : decode y5_giveEdges.2.1 49 = .ok (.iconst 1, 1) := by decide +kernel
theorem d5_giveEdges_50 : decode y5_giveEdges.2.1 50 = .ok (.invokevirtual 168, 3) := by decide +kernel
theorem d5_giveEdges_53 : decode y5_giveEdges.2.1 53 = .ok (.aload_n 0, 1) := by decide +kernel
theorem d5_giveEdges_54 : decode y5_giveEdges.2.1 54 = .ok (.iload_n 1, 1) := by decide +kernel
theorem d5_giveEdges_55 : decode y5_giveEdges.2.1 55 = .ok (.invokevirtual 171, 3) := by decide +kernel
theorem d5_giveEdges_58 : decode y5_giveEdges.2.1 58 = .ok (.istore 4, 2) := by decide +kernel
theorem d5_giveEdges_60 : decode y5_giveEdges.2.1 60 = .ok (.goto 21, 3) := by decide +kernel
theorem d5_giveEdges_63 : decode y5_giveEdges.2.1 63 = .ok (.aload_n 0, 1) := by decide +kernel
theorem d5_giveEdges_64 : decode y5_giveEdges.2.1 64 = .ok (.iconst 0, 1) := by decide +kernel
theorem d5_giveEdges_65 : decode y5_giveEdges.2.1 65 = .ok (.invokevirtual 168, 3) := by decide +kernel
theorem d5_giveEdges_68 : decode y5_giveEdges.2.1 68 = .ok (.aload_n 0, 1) := by decide +kernel
theorem d5_giveEdges_69 : decode y5_giveEdges.2.1 69 = .ok (.aload_n 2, 1) := by decide +kernel
theorem d5_giveEdges_70 : decode y5_giveEdges.2.1 70 = .ok (.iload_n 1, 1) := by decide +kernel
theorem d5_giveEdges_71 : decode y5_giveEdges.2.1 71 = .ok (.iload_n 3, 1) := by decide +kernel
theorem d5_giveEdges_72 : decode y5_giveEdges.2.1 72 = .ok (.invokevirtual 127, 3) := by decide +kernel
theorem d5_giveEdges_75 : decode y5_giveEdges.2.1 75 = .ok (.iload_n 1, 1) := by decide +kernel
theorem d5_giveEdges_76 : decode y5_giveEdges.2.1 76 = .ok (.invokevirtual 99, 3) := by decide +kernel
theorem d5_giveEdges_79 : decode y5_giveEdges.2.1 79 = .ok (.istore 4, 2) := by decide +kernel
theorem d5_giveEdges_81 : decode y5_giveEdges.2.1 81 = .ok (.iload 4, 2) := by decide +kernel
theorem d5_giveEdges_83 : decode y5_giveEdges.2.1 83 = .ok (.ifCond .ne 5, 3) := by decide +kernel
theorem d5_giveEdges_86 : decode y5_giveEdges.2.1 86 = .ok (.iconst 0, 1) := by decide +kernel
theorem d5_giveEdges_87 : decode y5_giveEdges.2.1 87 = .ok (.ireturn, 1) := by decide +kernel
theorem d5_giveEdges_88 : decode y5_giveEdges.2.1 88 = .ok (.iinc 3 1, 3) := by decide +kernel
theorem d5_giveEdges_91 : decode y5_giveEdges.2.1 91 = .ok (.goto (-79), 3) := by decide +kernel
theorem d5_giveEdges_94 : decode y5_giveEdges.2.1 94 = .ok (.iconst 1, 1) := by decide +kernel
theorem d5_giveEdges_95 : decode y5_giveEdges.2.1 95 = .ok (.ireturn, 1) := by decide +kernel
theorem d5_giveImpossible_0 : decode y5_giveImpossible.2.1 0 = .ok (.iconst 0, 1) := by decide +kernel
theorem d5_giveImpossible_1 : decode y5_giveImpossible.2.1 1 = .ok (.istore_n 2, 1) := by decide +kernel
theorem d5_giveImpossible_2 : decode y5_giveImpossible.2.1 2 = .ok (.iload_n 2, 1) := by decide +kernel
theorem d5_giveImpossible_3 : decode y5_giveImpossible.2.1 3 = .ok (.bipush 10, 2) := by decide +kernel
theorem d5_giveImpossible_5 : decode y5_giveImpossible.2.1 5 = .ok (.if_icmp .ge 39, 3) := by decide +kernel
theorem d5_giveImpossible_8 : decode y5_giveImpossible.2.1 8 = .ok (.aload_n 0, 1) := by decide +kernel
theorem d5_giveImpossible_9 : decode y5_giveImpossible.2.1 9 = .ok (.getfield 43, 3) := by decide +kernel
theorem d5_giveImpossible_12 : decode y5_giveImpossible.2.1 12 = .ok (.aload_n 0, 1) := by decide +kernel
theorem d5_giveImpossible_13 : decode y5_giveImpossible.2.1 13 = .ok (.getfield 36, 3) := by decide +kernel
theorem d5_giveImpossible_16 : decode y5_giveImpossible.2.1 16 = .ok (.iload_n 2, 1) := by decide +kernel
theorem d5_giveImpossible_17 : decode y5_giveImpossible.2.1 17 = .ok (.iload_n 2, 1) := by decide +kernel
theorem d5_giveImpossible_18 : decode y5_giveImpossible.2.1 18 = .ok (.ldc2_w 174, 3) := by decide +kernel
theorem d5_giveImpossible_21 : decode y5_giveImpossible.2.1 21 = .ok (.invokevirtual 154, 3) := by decide +kernel
theorem d5_giveImpossible_24 : decode y5_giveImpossible.2.1 24 = .ok (.ifCond .eq 14, 3) := by decide +kernel
theorem d5_giveImpossible_27 : decode y5_giveImpossible.2.1 27 = .ok (.aload_n 0, 1) := by decide +kernel
theorem d5_giveImpossible_28 : decode y5_giveImpossible.2.1 28 = .ok (.iload_n 2, 1) := by decide +kernel
theorem d5_giveImpossible_29 : decode y5_giveImpossible.2.1 29 = .ok (.invokevirtual 168, 3) := by decide +kernel
theorem d5_giveImpossible_32 : decode y5_giveImpossible.2.1 32 = .ok (.aload_n 0, 1) := by decide +kernel
theorem d5_giveImpossible_33 : decode y5_giveImpossible.2.1 33 = .ok (.iload_n 1, 1) := by decide +kernel
theorem d5_giveImpossible_34 : decode y5_giveImpossible.2.1 34 = .ok (.invokevirtual 158, 3) := by decide +kernel
theorem d5_giveImpossible_37 : decode y5_giveImpossible.2.1 37 = .ok (.ireturn, 1) := by decide +kernel
theorem d5_giveImpossible_38 : decode y5_giveImpossible.2.1 38 = .ok (.iinc 2 1, 3) := by decide +kernel
theorem d5_giveImpossible_41 : decode y5_giveImpossible.2.1 41 = .ok (.goto (-39), 3) := by decide +kernel
theorem d5_giveImpossible_44 : decode y5_giveImpossible.2.1 44 = .ok (.iconst 0, 1) := by decide +kernel
theorem d5_giveImpossible_45 : decode y5_giveImpossible.2.1 45 = .ok (.ireturn, 1) := by decide +kernel
theorem d5_giveReasonsFor_0 : decode y5_giveReasonsFor.2.1 0 = .ok (.iconst 0, 1) := by decide +kernel
theorem d5_giveReasonsFor_1 : decode y5_giveReasonsFor.2.1 1 = .ok (.istore_n 3, 1) := by decide +kernel
theorem d5_giveReasonsFor_2 : decode y5_giveReasonsFor.2.1 2 = .ok (.iload_n 3, 1) := by decide +kernel
theorem d5_giveReasonsFor_3 : decode y5_giveReasonsFor.2.1 3 = .ok (.bipush 100, 2) := by decide +kernel
theorem d5_giveReasonsFor_5 : decode y5_giveReasonsFor.2.1 5 = .ok (.if_icmp .ge 71, 3) := by decide +kernel
theorem d5_giveReasonsFor_8 : decode y5_giveReasonsFor.2.1 8 = .ok (.aload_n 0, 1) := by decide +kernel
theorem d5_giveReasonsFor_9 : decode y5_giveReasonsFor.2.1 9 = .ok (.getfield 23, 3) := by decide +kernel
theorem d5_giveReasonsFor_12 : decode y5_giveReasonsFor.2.1 12 = .ok (.bipush 100, 2) := by decide +kernel
theorem d5_giveReasonsFor_14 : decode y5_giveReasonsFor.2.1 14 = .ok (.iload_n 1, 1) := by decide +kernel
theorem d5_giveReasonsFor_15 : decode y5_giveReasonsFor.2.1 15 = .ok (.imul, 1) := by decide +kernel
theorem d5_giveReasonsFor_16 : decode y5_giveReasonsFor.2.1 16 = .ok (.iload_n 3, 1) := by decide +kernel
theorem d5_giveReasonsFor_17 : decode y5_giveReasonsFor.2.1 17 = .ok (.iadd, 1) := by decide +kernel
theorem d5_giveReasonsFor_18 : decode y5_giveReasonsFor.2.1 18 = .ok (.baload, 1) := by decide +kernel
theorem d5_giveReasonsFor_19 : decode y5_giveReasonsFor.2.1 19 = .ok (.ifCond .eq 51, 3) := by decide +kernel
theorem d5_giveReasonsFor_22 : decode y5_giveReasonsFor.2.1 22 = .ok (.iload_n 3, 1) := by decide +kernel
theorem d5_giveReasonsFor_23 : decode y5_giveReasonsFor.2.1 23 = .ok (.bipush 10, 2) := by decide +kernel
theorem d5_giveReasonsFor_25 : decode y5_giveReasonsFor.2.1 25 = .ok (.idiv, 1) := by decide +kernel
theorem d5_giveReasonsFor_26 : decode y5_giveReasonsFor.2.1 26 = .ok (.istore 4, 2) := by decide +kernel
theorem d5_giveReasonsFor_28 : decode y5_giveReasonsFor.2.1 28 = .ok (.iload_n 3, 1) := by decide +kernel
theorem d5_giveReasonsFor_29 : decode y5_giveReasonsFor.2.1 29 = .ok (.bipush 10, 2) := by decide +kernel
theorem d5_giveReasonsFor_31 : decode y5_giveReasonsFor.2.1 31 = .ok (.irem, 1) := by decide +kernel
theorem d5_giveReasonsFor_32 : decode y5_giveReasonsFor.2.1 32 = .ok (.istore 5, 2) := by decide +kernel
theorem d5_giveReasonsFor_34 : decode y5_giveReasonsFor.2.1 34 = .ok (.aload_n 0, 1) := by decide +kernel
theorem d5_giveReasonsFor_35 : decode y5_giveReasonsFor.2.1 35 = .ok (.getfield 43, 3) := by decide +kernel
theorem d5_giveReasonsFor_38 : decode y5_giveReasonsFor.2.1 38 = .ok (.aload_n 0, 1) := by decide +kernel
theorem d5_giveReasonsFor_39 : decode y5_giveReasonsFor.2.1 39 = .ok (.getfield 36, 3) := by decide +kernel
theorem d5_giveReasonsFor_42 : decode y5_giveReasonsFor.2.1 42 = .ok (.iload 4, 2) := by decide +kernel
theorem d5_giveReasonsFor_44 : decode y5_giveReasonsFor.2.1 44 = .ok (.iload 5, 2) := by decide +kernel
theorem d5_giveReasonsFor_46 : decode y5_giveReasonsFor.2.1 46 = .ok (.aload_n 0, 1) := by decide +kernel
theorem d5_giveReasonsFor_47 : decode y5_giveReasonsFor.2.1 47 = .ok (.getfield 11, 3) := by decide +kernel
theorem d5_giveReasonsFor_50 : decode y5_giveReasonsFor.2.1 50 = .ok (.iload_n 1, 1) := by decide +kernel
theorem d5_giveReasonsFor_51 : decode y5_giveReasonsFor.2.1 51 = .ok (.aaload, 1) := by decide +kernel
theorem d5_giveReasonsFor_52 : decode y5_giveReasonsFor.2.1 52 = .ok (.iload_n 3, 1) := by decide +kernel
theorem d5_giveReasonsFor_53 : decode y5_giveReasonsFor.2.1 53 = .ok (.laload, 1) := by decide +kernel
theorem d5_giveReasonsFor_54 : decode y5_giveReasonsFor.2.1 54 = .ok (.invokevirtual 154, 3) := by decide +kernel
theorem d5_giveReasonsFor_57 : decode y5_giveReasonsFor.2.1 57 = .ok (.ifCond .eq 11, 3) := by decide +kernel
theorem d5_giveReasonsFor_60 : decode y5_giveReasonsFor.2.1 60 = .ok (.aload_n 0, 1) := by decide +kernel
theorem d5_giveReasonsFor_61 : decode y5_giveReasonsFor.2.1 61 = .ok (.iload_n 2, 1) := by decide +kernel
theorem d5_giveReasonsFor_62 : decode y5_giveReasonsFor.2.1 62 = .ok (.invokevirtual 158, 3) := by decide +kernel
theorem d5_giveReasonsFor_65 : decode y5_giveReasonsFor.2.1 65 = .ok (.ifCond .ne 5, 3) := by decide +kernel
theorem d5_giveReasonsFor_68 : decode y5_giveReasonsFor.2.1 68 = .ok (.iconst 0, 1) := by decide +kernel
theorem d5_giveReasonsFor_69 : decode y5_giveReasonsFor.2.1 69 = .ok (.ireturn, 1) := by decide +kernel
theorem d5_giveReasonsFor_70 : decode y5_giveReasonsFor.2.1 70 = .ok (.iinc 3 1, 3) := by decide +kernel
theorem d5_giveReasonsFor_73 : decode y5_giveReasonsFor.2.1 73 = .ok (.goto (-71), 3) := by decide +kernel
theorem d5_giveReasonsFor_76 : decode y5_giveReasonsFor.2.1 76 = .ok (.iconst 1, 1) := by decide +kernel
theorem d5_giveReasonsFor_77 : decode y5_giveReasonsFor.2.1 77 = .ok (.ireturn, 1) := by decide +kernel
theorem d5_writeFacts_0 : decode y5_writeFacts.2.1 0 = .ok (.iconst 0, 1) := by decide +kernel
theorem d5_writeFacts_1 : decode y5_writeFacts.2.1 1 = .ok (.istore_n 1, 1) := by decide +kernel
theorem d5_writeFacts_2 : decode y5_writeFacts.2.1 2 = .ok (.iload_n 1, 1) := by decide +kernel
theorem d5_writeFacts_3 : decode y5_writeFacts.2.1 3 = .ok (.aload_n 0, 1) := by decide +kernel
theorem d5_writeFacts_4 : decode y5_writeFacts.2.1 4 = .ok (.getfield 55, 3) := by decide +kernel
theorem d5_writeFacts_7 : decode y5_writeFacts.2.1 7 = .ok (.getfield 73, 3) := by decide +kernel
theorem d5_writeFacts_10 : decode y5_writeFacts.2.1 10 = .ok (.if_icmp .ge 89, 3) := by decide +kernel
theorem d5_writeFacts_13 : decode y5_writeFacts.2.1 13 = .ok (.aload_n 0, 1) := by decide +kernel
theorem d5_writeFacts_14 : decode y5_writeFacts.2.1 14 = .ok (.aload_n 0, 1) := by decide +kernel
theorem d5_writeFacts_15 : decode y5_writeFacts.2.1 15 = .ok (.getfield 16, 3) := by decide +kernel
theorem d5_writeFacts_18 : decode y5_writeFacts.2.1 18 = .ok (.iload_n 1, 1) := by decide +kernel
theorem d5_writeFacts_19 : decode y5_writeFacts.2.1 19 = .ok (.baload, 1) := by decide +kernel
theorem d5_writeFacts_20 : decode y5_writeFacts.2.1 20 = .ok (.ifCond .eq 12, 3) := by decide +kernel
theorem d5_writeFacts_23 : decode y5_writeFacts.2.1 23 = .ok (.aload_n 0, 1) := by decide +kernel
theorem d5_writeFacts_24 : decode y5_writeFacts.2.1 24 = .ok (.getfield 26, 3) := by decide +kernel
theorem d5_writeFacts_27 : decode y5_writeFacts.2.1 27 = .ok (.iload_n 1, 1) := by decide +kernel
theorem d5_writeFacts_28 : decode y5_writeFacts.2.1 28 = .ok (.iaload, 1) := by decide +kernel
theorem d5_writeFacts_29 : decode y5_writeFacts.2.1 29 = .ok (.goto 4, 3) := by decide +kernel
theorem d5_writeFacts_32 : decode y5_writeFacts.2.1 32 = .ok (.iconst (-1), 1) := by decide +kernel
theorem d5_writeFacts_33 : decode y5_writeFacts.2.1 33 = .ok (.invokevirtual 168, 3) := by decide +kernel
theorem d5_writeFacts_36 : decode y5_writeFacts.2.1 36 = .ok (.iconst 0, 1) := by decide +kernel
theorem d5_writeFacts_37 : decode y5_writeFacts.2.1 37 = .ok (.istore_n 2, 1) := by decide +kernel
theorem d5_writeFacts_38 : decode y5_writeFacts.2.1 38 = .ok (.iload_n 2, 1) := by decide +kernel
theorem d5_writeFacts_39 : decode y5_writeFacts.2.1 39 = .ok (.bipush 100, 2) := by decide +kernel
theorem d5_writeFacts_41 : decode y5_writeFacts.2.1 41 = .ok (.if_icmp .ge 52, 3) := by decide +kernel
theorem d5_writeFacts_44 : decode y5_writeFacts.2.1 44 = .ok (.aload_n 0, 1) := by decide +kernel
theorem d5_writeFacts_45 : decode y5_writeFacts.2.1 45 = .ok (.getfield 23, 3) := by decide +kernel
theorem d5_writeFacts_48 : decode y5_writeFacts.2.1 48 = .ok (.bipush 100, 2) := by decide +kernel
theorem d5_writeFacts_50 : decode y5_writeFacts.2.1 50 = .ok (.iload_n 1, 1) := by decide +kernel
theorem d5_writeFacts_51 : decode y5_writeFacts.2.1 51 = .ok (.imul, 1) := by decide +kernel
theorem d5_writeFacts_52 : decode y5_writeFacts.2.1 52 = .ok (.iload_n 2, 1) := by decide +kernel
theorem d5_writeFacts_53 : decode y5_writeFacts.2.1 53 = .ok (.iadd, 1) := by decide +kernel
theorem d5_writeFacts_54 : decode y5_writeFacts.2.1 54 = .ok (.baload, 1) := by decide +kernel
theorem d5_writeFacts_55 : decode y5_writeFacts.2.1 55 = .ok (.ifCond .eq 32, 3) := by decide +kernel
theorem d5_writeFacts_58 : decode y5_writeFacts.2.1 58 = .ok (.aload_n 0, 1) := by decide +kernel
theorem d5_writeFacts_59 : decode y5_writeFacts.2.1 59 = .ok (.iload_n 2, 1) := by decide +kernel
theorem d5_writeFacts_60 : decode y5_writeFacts.2.1 60 = .ok (.bipush 10, 2) := by decide +kernel
theorem d5_writeFacts_62 : decode y5_writeFacts.2.1 62 = .ok (.idiv, 1) := by decide +kernel
theorem d5_writeFacts_63 : decode y5_writeFacts.2.1 63 = .ok (.invokevirtual 168, 3) := by decide +kernel
theorem d5_writeFacts_66 : decode y5_writeFacts.2.1 66 = .ok (.aload_n 0, 1) := by decide +kernel
theorem d5_writeFacts_67 : decode y5_writeFacts.2.1 67 = .ok (.iload_n 2, 1) := by decide +kernel
theorem d5_writeFacts_68 : decode y5_writeFacts.2.1 68 = .ok (.bipush 10, 2) := by decide +kernel
theorem d5_writeFacts_70 : decode y5_writeFacts.2.1 70 = .ok (.irem, 1) := by decide +kernel
theorem d5_writeFacts_71 : decode y5_writeFacts.2.1 71 = .ok (.invokevirtual 168, 3) := by decide +kernel
theorem d5_writeFacts_74 : decode y5_writeFacts.2.1 74 = .ok (.aload_n 0, 1) := by decide +kernel
theorem d5_writeFacts_75 : decode y5_writeFacts.2.1 75 = .ok (.aload_n 0, 1) := by decide +kernel
theorem d5_writeFacts_76 : decode y5_writeFacts.2.1 76 = .ok (.getfield 11, 3) := by decide +kernel
theorem d5_writeFacts_79 : decode y5_writeFacts.2.1 79 = .ok (.iload_n 1, 1) := by decide +kernel
theorem d5_writeFacts_80 : decode y5_writeFacts.2.1 80 = .ok (.aaload, 1) := by decide +kernel
theorem d5_writeFacts_81 : decode y5_writeFacts.2.1 81 = .ok (.iload_n 2, 1) := by decide +kernel
theorem d5_writeFacts_82 : decode y5_writeFacts.2.1 82 = .ok (.laload, 1) := by decide +kernel
theorem d5_writeFacts_83 : decode y5_writeFacts.2.1 83 = .ok (.l2i, 1) := by decide +kernel
theorem d5_writeFacts_84 : decode y5_writeFacts.2.1 84 = .ok (.invokevirtual 168, 3) := by decide +kernel
theorem d5_writeFacts_87 : decode y5_writeFacts.2.1 87 = .ok (.iinc 2 1, 3) := by decide +kernel
theorem d5_writeFacts_90 : decode y5_writeFacts.2.1 90 = .ok (.goto (-52), 3) := by decide +kernel
theorem d5_writeFacts_93 : decode y5_writeFacts.2.1 93 = .ok (.iinc 1 1, 3) := by decide +kernel
theorem d5_writeFacts_96 : decode y5_writeFacts.2.1 96 = .ok (.goto (-94), 3) := by decide +kernel
theorem d5_writeFacts_99 : decode y5_writeFacts.2.1 99 = .ok (.return_, 1) := by decide +kernel
theorem d5_rankNeeds_0 : decode y5_rankNeeds.2.1 0 = .ok (.iconst 0, 1) := by decide +kernel
theorem d5_rankNeeds_1 : decode y5_rankNeeds.2.1 1 = .ok (.istore_n 2, 1) := by decide +kernel
theorem d5_rankNeeds_2 : decode y5_rankNeeds.2.1 2 = .ok (.iconst 0, 1) := by decide +kernel
theorem d5_rankNeeds_3 : decode y5_rankNeeds.2.1 3 = .ok (.istore_n 3, 1) := by decide +kernel
theorem d5_rankNeeds_4 : decode y5_rankNeeds.2.1 4 = .ok (.iload_n 3, 1) := by decide +kernel
theorem d5_rankNeeds_5 : decode y5_rankNeeds.2.1 5 = .ok (.bipush 100, 2) := by decide +kernel
theorem d5_rankNeeds_7 : decode y5_rankNeeds.2.1 7 = .ok (.if_icmp .ge 33, 3) := by decide +kernel
theorem d5_rankNeeds_10 : decode y5_rankNeeds.2.1 10 = .ok (.aload_n 0, 1) := by decide +kernel
theorem d5_rankNeeds_11 : decode y5_rankNeeds.2.1 11 = .ok (.getfield 30, 3) := by decide +kernel
theorem d5_rankNeeds_14 : decode y5_rankNeeds.2.1 14 = .ok (.iload_n 3, 1) := by decide +kernel
theorem d5_rankNeeds_15 : decode y5_rankNeeds.2.1 15 = .ok (.iload_n 2, 1) := by decide +kernel
theorem d5_rankNeeds_16 : decode y5_rankNeeds.2.1 16 = .ok (.iastore, 1) := by decide +kernel
theorem d5_rankNeeds_17 : decode y5_rankNeeds.2.1 17 = .ok (.aload_n 0, 1) := by decide +kernel
theorem d5_rankNeeds_18 : decode y5_rankNeeds.2.1 18 = .ok (.getfield 23, 3) := by decide +kernel
theorem d5_rankNeeds_21 : decode y5_rankNeeds.2.1 21 = .ok (.bipush 100, 2) := by decide +kernel
theorem d5_rankNeeds_23 : decode y5_rankNeeds.2.1 23 = .ok (.iload_n 1, 1) := by decide +kernel
theorem d5_rankNeeds_24 : decode y5_rankNeeds.2.1 24 = .ok (.imul, 1) := by decide +kernel
theorem d5_rankNeeds_25 : decode y5_rankNeeds.2.1 25 = .ok (.iload_n 3, 1) := by decide +kernel
theorem d5_rankNeeds_26 : decode y5_rankNeeds.2.1 26 = .ok (.iadd, 1) := by decide +kernel
theorem d5_rankNeeds_27 : decode y5_rankNeeds.2.1 27 = .ok (.baload, 1) := by decide +kernel
theorem d5_rankNeeds_28 : decode y5_rankNeeds.2.1 28 = .ok (.ifCond .eq 6, 3) := by decide +kernel
theorem d5_rankNeeds_31 : decode y5_rankNeeds.2.1 31 = .ok (.iinc 2 1, 3) := by decide +kernel
theorem d5_rankNeeds_34 : decode y5_rankNeeds.2.1 34 = .ok (.iinc 3 1, 3) := by decide +kernel
theorem d5_rankNeeds_37 : decode y5_rankNeeds.2.1 37 = .ok (.goto (-33), 3) := by decide +kernel
theorem d5_rankNeeds_40 : decode y5_rankNeeds.2.1 40 = .ok (.return_, 1) := by decide +kernel
theorem d0_say_0 : decode y0_say.2.1 0 = .ok (.aload_n 0, 1) := by decide +kernel
theorem d0_say_1 : decode y0_say.2.1 1 = .ok (.getfield 30, 3) := by decide +kernel
theorem d0_say_4 : decode y0_say.2.1 4 = .ok (.iload_n 1, 1) := by decide +kernel
theorem d0_say_5 : decode y0_say.2.1 5 = .ok (.invokevirtual 88, 3) := by decide +kernel
theorem d0_say_8 : decode y0_say.2.1 8 = .ok (.ifCond .eq 13, 3) := by decide +kernel
theorem d0_say_11 : decode y0_say.2.1 11 = .ok (.aload_n 0, 1) := by decide +kernel
theorem d0_say_12 : decode y0_say.2.1 12 = .ok (.getfield 30, 3) := by decide +kernel
theorem d0_say_15 : decode y0_say.2.1 15 = .ok (.getfield 85, 3) := by decide +kernel
theorem d0_say_18 : decode y0_say.2.1 18 = .ok (.goto 5, 3) := by decide +kernel
theorem d0_say_21 : decode y0_say.2.1 21 = .ok (.bipush (-3), 2) := by decide +kernel
theorem d0_say_23 : decode y0_say.2.1 23 = .ok (.ireturn, 1) := by decide +kernel
theorem d0_cut_0 : decode y0_cut.2.1 0 = .ok (.aload_n 0, 1) := by decide +kernel
theorem d0_cut_1 : decode y0_cut.2.1 1 = .ok (.getfield 30, 3) := by decide +kernel
theorem d0_cut_4 : decode y0_cut.2.1 4 = .ok (.iload_n 1, 1) := by decide +kernel
theorem d0_cut_5 : decode y0_cut.2.1 5 = .ok (.invokevirtual 73, 3) := by decide +kernel
theorem d0_cut_8 : decode y0_cut.2.1 8 = .ok (.ireturn, 1) := by decide +kernel
theorem d0_change_0 : decode y0_change.2.1 0 = .ok (.aload_n 0, 1) := by decide +kernel
theorem d0_change_1 : decode y0_change.2.1 1 = .ok (.getfield 30, 3) := by decide +kernel
theorem d0_change_4 : decode y0_change.2.1 4 = .ok (.iload_n 1, 1) := by decide +kernel
theorem d0_change_5 : decode y0_change.2.1 5 = .ok (.iload_n 2, 1) := by decide +kernel
theorem d0_change_6 : decode y0_change.2.1 6 = .ok (.invokevirtual 90, 3) := by decide +kernel
theorem d0_change_9 : decode y0_change.2.1 9 = .ok (.ireturn, 1) := by decide +kernel
theorem d3_replace_0 : decode y3_replace.2.1 0 = .ok (.iload_n 1, 1) := by decide +kernel
theorem d3_replace_1 : decode y3_replace.2.1 1 = .ok (.ifCond .lt 11, 3) := by decide +kernel
theorem d3_replace_4 : decode y3_replace.2.1 4 = .ok (.iload_n 1, 1) := by decide +kernel
theorem d3_replace_5 : decode y3_replace.2.1 5 = .ok (.aload_n 0, 1) := by decide +kernel
theorem d3_replace_6 : decode y3_replace.2.1 6 = .ok (.getfield 15, 3) := by decide +kernel
theorem d3_replace_9 : decode y3_replace.2.1 9 = .ok (.if_icmp .lt 5, 3) := by decide +kernel
theorem d3_replace_12 : decode y3_replace.2.1 12 = .ok (.iconst 0, 1) := by decide +kernel
theorem d3_replace_13 : decode y3_replace.2.1 13 = .ok (.ireturn, 1) := by decide +kernel
theorem d3_replace_14 : decode y3_replace.2.1 14 = .ok (.aload_n 0, 1) := by decide +kernel
theorem d3_replace_15 : decode y3_replace.2.1 15 = .ok (.getfield 9, 3) := by decide +kernel
theorem d3_replace_18 : decode y3_replace.2.1 18 = .ok (.iload_n 1, 1) := by decide +kernel
theorem d3_replace_19 : decode y3_replace.2.1 19 = .ok (.iload_n 2, 1) := by decide +kernel
theorem d3_replace_20 : decode y3_replace.2.1 20 = .ok (.iastore, 1) := by decide +kernel
theorem d3_replace_21 : decode y3_replace.2.1 21 = .ok (.iconst 1, 1) := by decide +kernel
theorem d3_replace_22 : decode y3_replace.2.1 22 = .ok (.ireturn, 1) := by decide +kernel
theorem d0_length_0 : decode y0_length.2.1 0 = .ok (.aload_n 0, 1) := by decide +kernel
theorem d0_length_1 : decode y0_length.2.1 1 = .ok (.getfield 30, 3) := by decide +kernel
theorem d0_length_4 : decode y0_length.2.1 4 = .ok (.getfield 85, 3) := by decide +kernel
theorem d0_length_7 : decode y0_length.2.1 7 = .ok (.ireturn, 1) := by decide +kernel
theorem d0_at_0 : decode y0_at.2.1 0 = .ok (.aload_n 0, 1) := by decide +kernel
theorem d0_at_1 : decode y0_at.2.1 1 = .ok (.getfield 30, 3) := by decide +kernel
theorem d0_at_4 : decode y0_at.2.1 4 = .ok (.iload_n 1, 1) := by decide +kernel
theorem d0_at_5 : decode y0_at.2.1 5 = .ok (.invokevirtual 94, 3) := by decide +kernel
theorem d0_at_8 : decode y0_at.2.1 8 = .ok (.ireturn, 1) := by decide +kernel
theorem d3_get_0 : decode y3_get.2.1 0 = .ok (.iload_n 1, 1) := by decide +kernel
theorem d3_get_1 : decode y3_get.2.1 1 = .ok (.ifCond .lt 20, 3) := by decide +kernel
theorem d3_get_4 : decode y3_get.2.1 4 = .ok (.iload_n 1, 1) := by decide +kernel
theorem d3_get_5 : decode y3_get.2.1 5 = .ok (.aload_n 0, 1) := by decide +kernel
theorem d3_get_6 : decode y3_get.2.1 6 = .ok (.getfield 15, 3) := by decide +kernel
theorem d3_get_9 : decode y3_get.2.1 9 = .ok (.if_icmp .ge 12, 3) := by decide +kernel
theorem d3_get_12 : decode y3_get.2.1 12 = .ok (.aload_n 0, 1) := by decide +kernel
theorem d3_get_13 : decode y3_get.2.1 13 = .ok (.getfield 9, 3) := by decide +kernel
theorem d3_get_16 : decode y3_get.2.1 16 = .ok (.iload_n 1, 1) := by decide +kernel
theorem d3_get_17 : decode y3_get.2.1 17 = .ok (.iaload, 1) := by decide +kernel
theorem d3_get_18 : decode y3_get.2.1 18 = .ok (.goto 4, 3) := by decide +kernel
theorem d3_get_21 : decode y3_get.2.1 21 = .ok (.iconst 0, 1) := by decide +kernel
theorem d3_get_22 : decode y3_get.2.1 22 = .ok (.ireturn, 1) := by decide +kernel
theorem d0_check_0 : decode y0_check.2.1 0 = .ok (.aload_n 0, 1) := by decide +kernel
theorem d0_check_1 : decode y0_check.2.1 1 = .ok (.getfield 51, 3) := by decide +kernel
theorem d0_check_4 : decode y0_check.2.1 4 = .ok (.aload_n 0, 1) := by decide +kernel
theorem d0_check_5 : decode y0_check.2.1 5 = .ok (.getfield 23, 3) := by decide +kernel
theorem d0_check_8 : decode y0_check.2.1 8 = .ok (.aload_n 0, 1) := by decide +kernel
theorem d0_check_9 : decode y0_check.2.1 9 = .ok (.getfield 30, 3) := by decide +kernel
theorem d0_check_12 : decode y0_check.2.1 12 = .ok (.invokevirtual 98, 3) := by decide +kernel
theorem d0_check_15 : decode y0_check.2.1 15 = .ok (.istore_n 1, 1) := by decide +kernel
theorem d0_check_16 : decode y0_check.2.1 16 = .ok (.aload_n 0, 1) := by decide +kernel
theorem d0_check_17 : decode y0_check.2.1 17 = .ok (.aload_n 0, 1) := by decide +kernel
theorem d0_check_18 : decode y0_check.2.1 18 = .ok (.getfield 51, 3) := by decide +kernel
theorem d0_check_21 : decode y0_check.2.1 21 = .ok (.getfield 101, 3) := by decide +kernel
theorem d0_check_24 : decode y0_check.2.1 24 = .ok (.putfield 62, 3) := by decide +kernel
theorem d0_check_27 : decode y0_check.2.1 27 = .ok (.iload_n 1, 1) := by decide +kernel
theorem d0_check_28 : decode y0_check.2.1 28 = .ok (.ineg, 1) := by decide +kernel
theorem d0_check_29 : decode y0_check.2.1 29 = .ok (.ireturn, 1) := by decide +kernel
theorem d9_read_0 : decode y9_read.2.1 0 = .ok (.aload_n 0, 1) := by decide +kernel
theorem d9_read_1 : decode y9_read.2.1 1 = .ok (.aload_n 1, 1) := by decide +kernel
theorem d9_read_2 : decode y9_read.2.1 2 = .ok (.putfield 31, 3) := by decide +kernel
theorem d9_read_5 : decode y9_read.2.1 5 = .ok (.aload_n 0, 1) := by decide +kernel
theorem d9_read_6 : decode y9_read.2.1 6 = .ok (.aload_n 2, 1) := by decide +kernel
theorem d9_read_7 : decode y9_read.2.1 7 = .ok (.putfield 35, 3) := by decide +kernel
theorem d9_read_10 : decode y9_read.2.1 10 = .ok (.aload_n 0, 1) := by decide +kernel
theorem d9_read_11 : decode y9_read.2.1 11 = .ok (.iconst 0, 1) := by decide +kernel
theorem d9_read_12 : decode y9_read.2.1 12 = .ok (.putfield 39, 3) := by decide +kernel
theorem d9_read_15 : decode y9_read.2.1 15 = .ok (.aload_n 0, 1) := by decide +kernel
theorem d9_read_16 : decode y9_read.2.1 16 = .ok (.iconst 0, 1) := by decide +kernel
theorem d9_read_17 : decode y9_read.2.1 17 = .ok (.putfield 43, 3) := by decide +kernel
theorem d9_read_20 : decode y9_read.2.1 20 = .ok (.aload_n 0, 1) := by decide +kernel
theorem d9_read_21 : decode y9_read.2.1 21 = .ok (.bipush (-2), 2) := by decide +kernel
theorem d9_read_23 : decode y9_read.2.1 23 = .ok (.putfield 46, 3) := by decide +kernel
theorem d9_read_26 : decode y9_read.2.1 26 = .ok (.aload_n 1, 1) := by decide +kernel
theorem d9_read_27 : decode y9_read.2.1 27 = .ok (.invokevirtual 49, 3) := by decide +kernel
theorem d9_read_30 : decode y9_read.2.1 30 = .ok (.istore_n 3, 1) := by decide +kernel
theorem d9_read_31 : decode y9_read.2.1 31 = .ok (.iload_n 3, 1) := by decide +kernel
theorem d9_read_32 : decode y9_read.2.1 32 = .ok (.bipush (-2), 2) := by decide +kernel
theorem d9_read_34 : decode y9_read.2.1 34 = .ok (.if_icmp .ne 28, 3) := by decide +kernel
theorem d9_read_37 : decode y9_read.2.1 37 = .ok (.aload_n 0, 1) := by decide +kernel
theorem d9_read_38 : decode y9_read.2.1 38 = .ok (.invokevirtual 55, 3) := by decide +kernel
theorem d9_read_41 : decode y9_read.2.1 41 = .ok (.ifCond .eq 17, 3) := by decide +kernel
theorem d9_read_44 : decode y9_read.2.1 44 = .ok (.aload_n 0, 1) := by decide +kernel
theorem d9_read_45 : decode y9_read.2.1 45 = .ok (.iconst 0, 1) := by decide +kernel
theorem d9_read_46 : decode y9_read.2.1 46 = .ok (.iconst (-1), 1) := by decide +kernel
theorem d9_read_47 : decode y9_read.2.1 47 = .ok (.iconst (-1), 1) := by decide +kernel
theorem d9_read_48 : decode y9_read.2.1 48 = .ok (.invokevirtual 59, 3) := by decide +kernel
theorem d9_read_51 : decode y9_read.2.1 51 = .ok (.ifCond .eq 7, 3) := by decide +kernel
theorem d9_read_54 : decode y9_read.2.1 54 = .ok (.iconst 1, 1) := by decide +kernel
theorem d9_read_55 : decode y9_read.2.1 55 = .ok (.goto 13, 3) := by decide +kernel
theorem d9_read_58 : decode y9_read.2.1 58 = .ok (.iconst 0, 1) := by decide +kernel
theorem d9_read_59 : decode y9_read.2.1 59 = .ok (.goto 9, 3) := by decide +kernel
theorem d9_read_62 : decode y9_read.2.1 62 = .ok (.aload_n 0, 1) := by decide +kernel
theorem d9_read_63 : decode y9_read.2.1 63 = .ok (.iconst 1, 1) := by decide +kernel
theorem d9_read_64 : decode y9_read.2.1 64 = .ok (.iload_n 3, 1) := by decide +kernel
theorem d9_read_65 : decode y9_read.2.1 65 = .ok (.invokevirtual 63, 3) := by decide +kernel
theorem d9_read_68 : decode y9_read.2.1 68 = .ok (.istore 4, 2) := by decide +kernel
theorem d9_read_70 : decode y9_read.2.1 70 = .ok (.iconst 0, 1) := by decide +kernel
theorem d9_read_71 : decode y9_read.2.1 71 = .ok (.istore 5, 2) := by decide +kernel
theorem d9_read_73 : decode y9_read.2.1 73 = .ok (.iload 4, 2) := by decide +kernel
theorem d9_read_75 : decode y9_read.2.1 75 = .ok (.ifCond .eq 54, 3) := by decide +kernel
theorem d9_read_78 : decode y9_read.2.1 78 = .ok (.iload 5, 2) := by decide +kernel
theorem d9_read_80 : decode y9_read.2.1 80 = .ok (.aload_n 1, 1) := by decide +kernel
theorem d9_read_81 : decode y9_read.2.1 81 = .ok (.getfield 67, 3) := by decide +kernel
theorem d9_read_84 : decode y9_read.2.1 84 = .ok (.if_icmp .ge 45, 3) := by decide +kernel
theorem d9_read_87 : decode y9_read.2.1 87 = .ok (.aload_n 0, 1) := by decide +kernel
theorem d9_read_88 : decode y9_read.2.1 88 = .ok (.getfield 9, 3) := by decide +kernel
theorem d9_read_91 : decode y9_read.2.1 91 = .ok (.iload 5, 2) := by decide +kernel
theorem d9_read_93 : decode y9_read.2.1 93 = .ok (.iaload, 1) := by decide +kernel
theorem d9_read_94 : decode y9_read.2.1 94 = .ok (.iconst (-1), 1) := by decide +kernel
theorem d9_read_95 : decode y9_read.2.1 95 = .ok (.if_icmp .eq 21, 3) := by decide +kernel
theorem d9_read_98 : decode y9_read.2.1 98 = .ok (.aload_n 0, 1) := by decide +kernel
theorem d9_read_99 : decode y9_read.2.1 99 = .ok (.iload 5, 2) := by decide +kernel
theorem d9_read_101 : decode y9_read.2.1 101 = .ok (.invokevirtual 70, 3) := by decide +kernel
theorem d9_read_104 : decode y9_read.2.1 104 = .ok (.ifCond .eq 16, 3) := by decide +kernel
theorem d9_read_107 : decode y9_read.2.1 107 = .ok (.aload_n 0, 1) := by decide +kernel
theorem d9_read_108 : decode y9_read.2.1 108 = .ok (.iload 5, 2) := by decide +kernel
theorem d9_read_110 : decode y9_read.2.1 110 = .ok (.invokevirtual 74, 3) := by decide +kernel
theorem d9_read_113 : decode y9_read.2.1 113 = .ok (.ifCond .eq 7, 3) := by decide +kernel
theorem d9_read_116 : decode y9_read.2.1 116 = .ok (.iconst 1, 1) := by decide +kernel
theorem d9_read_117 : decode y9_read.2.1 117 = .ok (.goto 4, 3) := by decide +kernel
theorem d9_read_120 : decode y9_read.2.1 120 = .ok (.iconst 0, 1) := by decide +kernel
theorem d9_read_121 : decode y9_read.2.1 121 = .ok (.istore 4, 2) := by decide +kernel
theorem d9_read_123 : decode y9_read.2.1 123 = .ok (.iinc 5 1, 3) := by decide +kernel
theorem d9_read_126 : decode y9_read.2.1 126 = .ok (.goto (-53), 3) := by decide +kernel
theorem d9_read_129 : decode y9_read.2.1 129 = .ok (.iload 4, 2) := by decide +kernel
theorem d9_read_131 : decode y9_read.2.1 131 = .ok (.ifCond .eq 25, 3) := by decide +kernel
theorem d9_read_134 : decode y9_read.2.1 134 = .ok (.aload_n 0, 1) := by decide +kernel
theorem d9_read_135 : decode y9_read.2.1 135 = .ok (.getfield 39, 3) := by decide +kernel
theorem d9_read_138 : decode y9_read.2.1 138 = .ok (.aload_n 2, 1) := by decide +kernel
theorem d9_read_139 : decode y9_read.2.1 139 = .ok (.getfield 77, 3) := by decide +kernel
theorem d9_read_142 : decode y9_read.2.1 142 = .ok (.if_icmp .ge 14, 3) := by decide +kernel
theorem d9_read_145 : decode y9_read.2.1 145 = .ok (.aload_n 0, 1) := by decide +kernel
theorem d9_read_146 : decode y9_read.2.1 146 = .ok (.bipush 8, 2) := by decide +kernel
theorem d9_read_148 : decode y9_read.2.1 148 = .ok (.aload_n 0, 1) := by decide +kernel
theorem d9_read_149 : decode y9_read.2.1 149 = .ok (.getfield 39, 3) := by decide +kernel
theorem d9_read_152 : decode y9_read.2.1 152 = .ok (.invokevirtual 63, 3) := by decide +kernel
theorem d9_read_155 : decode y9_read.2.1 155 = .ok (.pop, 1) := by decide +kernel
theorem d9_read_156 : decode y9_read.2.1 156 = .ok (.aload_n 0, 1) := by decide +kernel
theorem d9_read_157 : decode y9_read.2.1 157 = .ok (.getfield 43, 3) := by decide +kernel
theorem d9_read_160 : decode y9_read.2.1 160 = .ok (.ireturn, 1) := by decide +kernel
theorem d9_readFacts_0 : decode y9_readFacts.2.1 0 = .ok (.iconst 0, 1) := by decide +kernel
theorem d9_readFacts_1 : decode y9_readFacts.2.1 1 = .ok (.istore_n 1, 1) := by decide +kernel
theorem d9_readFacts_2 : decode y9_readFacts.2.1 2 = .ok (.iload_n 1, 1) := by decide +kernel
theorem d9_readFacts_3 : decode y9_readFacts.2.1 3 = .ok (.aload_n 0, 1) := by decide +kernel
theorem d9_readFacts_4 : decode y9_readFacts.2.1 4 = .ok (.getfield 31, 3) := by decide +kernel
theorem d9_readFacts_7 : decode y9_readFacts.2.1 7 = .ok (.getfield 67, 3) := by decide +kernel
theorem d9_readFacts_10 : decode y9_readFacts.2.1 10 = .ok (.if_icmp .ge 68, 3) := by decide +kernel
theorem d9_readFacts_13 : decode y9_readFacts.2.1 13 = .ok (.aload_n 0, 1) := by decide +kernel
theorem d9_readFacts_14 : decode y9_readFacts.2.1 14 = .ok (.iconst (-1), 1) := by decide +kernel
theorem d9_readFacts_15 : decode y9_readFacts.2.1 15 = .ok (.bipush 24, 2) := by decide +kernel
theorem d9_readFacts_17 : decode y9_readFacts.2.1 17 = .ok (.invokevirtual 92, 3) := by decide +kernel
theorem d9_readFacts_20 : decode y9_readFacts.2.1 20 = .ok (.ifCond .ne 5, 3) := by decide +kernel
theorem d9_readFacts_23 : decode y9_readFacts.2.1 23 = .ok (.iconst 0, 1) := by decide +kernel
theorem d9_readFacts_24 : decode y9_readFacts.2.1 24 = .ok (.ireturn, 1) := by decide +kernel
theorem d9_readFacts_25 : decode y9_readFacts.2.1 25 = .ok (.aload_n 0, 1) := by decide +kernel
theorem d9_readFacts_26 : decode y9_readFacts.2.1 26 = .ok (.getfield 9, 3) := by decide +kernel
theorem d9_readFacts_29 : decode y9_readFacts.2.1 29 = .ok (.iload_n 1, 1) := by decide +kernel
theorem d9_readFacts_30 : decode y9_readFacts.2.1 30 = .ok (.aload_n 0, 1) := by decide +kernel
theorem d9_readFacts_31 : decode y9_readFacts.2.1 31 = .ok (.getfield 86, 3) := by decide +kernel
theorem d9_readFacts_34 : decode y9_readFacts.2.1 34 = .ok (.iastore, 1) := by decide +kernel
theorem d9_readFacts_35 : decode y9_readFacts.2.1 35 = .ok (.aload_n 0, 1) := by decide +kernel
theorem d9_readFacts_36 : decode y9_readFacts.2.1 36 = .ok (.getfield 15, 3) := by decide +kernel
theorem d9_readFacts_39 : decode y9_readFacts.2.1 39 = .ok (.iload_n 1, 1) := by decide +kernel
theorem d9_readFacts_40 : decode y9_readFacts.2.1 40 = .ok (.aload_n 0, 1) := by decide +kernel
theorem d9_readFacts_41 : decode y9_readFacts.2.1 41 = .ok (.getfield 39, 3) := by decide +kernel
theorem d9_readFacts_44 : decode y9_readFacts.2.1 44 = .ok (.iastore, 1) := by decide +kernel
theorem d9_readFacts_45 : decode y9_readFacts.2.1 45 = .ok (.iconst 0, 1) := by decide +kernel
theorem d9_readFacts_46 : decode y9_readFacts.2.1 46 = .ok (.istore_n 2, 1) := by decide +kernel
theorem d9_readFacts_47 : decode y9_readFacts.2.1 47 = .ok (.iload_n 2, 1) := by decide +kernel
theorem d9_readFacts_48 : decode y9_readFacts.2.1 48 = .ok (.aload_n 0, 1) := by decide +kernel
theorem d9_readFacts_49 : decode y9_readFacts.2.1 49 = .ok (.getfield 9, 3) := by decide +kernel
theorem d9_readFacts_52 : decode y9_readFacts.2.1 52 = .ok (.iload_n 1, 1) := by decide +kernel
theorem d9_readFacts_53 : decode y9_readFacts.2.1 53 = .ok (.iaload, 1) := by decide +kernel
theorem d9_readFacts_54 : decode y9_readFacts.2.1 54 = .ok (.if_icmp .ge 18, 3) := by decide +kernel
theorem d9_readFacts_57 : decode y9_readFacts.2.1 57 = .ok (.aload_n 0, 1) := by decide +kernel
theorem d9_readFacts_58 : decode y9_readFacts.2.1 58 = .ok (.invokevirtual 95, 3) := by decide +kernel
theorem d9_readFacts_61 : decode y9_readFacts.2.1 61 = .ok (.ifCond .ne 5, 3) := by decide +kernel
theorem d9_readFacts_64 : decode y9_readFacts.2.1 64 = .ok (.iconst 0, 1) := by decide +kernel
theorem d9_readFacts_65 : decode y9_readFacts.2.1 65 = .ok (.ireturn, 1) := by decide +kernel
theorem d9_readFacts_66 : decode y9_readFacts.2.1 66 = .ok (.iinc 2 1, 3) := by decide +kernel
theorem d9_readFacts_69 : decode y9_readFacts.2.1 69 = .ok (.goto (-22), 3) := by decide +kernel
theorem d9_readFacts_72 : decode y9_readFacts.2.1 72 = .ok (.iinc 1 1, 3) := by decide +kernel
theorem d9_readFacts_75 : decode y9_readFacts.2.1 75 = .ok (.goto (-73), 3) := by decide +kernel
theorem d9_readFacts_78 : decode y9_readFacts.2.1 78 = .ok (.aload_n 0, 1) := by decide +kernel
theorem d9_readFacts_79 : decode y9_readFacts.2.1 79 = .ok (.getfield 9, 3) := by decide +kernel
theorem d9_readFacts_82 : decode y9_readFacts.2.1 82 = .ok (.iconst 0, 1) := by decide +kernel
theorem d9_readFacts_83 : decode y9_readFacts.2.1 83 = .ok (.iaload, 1) := by decide +kernel
theorem d9_readFacts_84 : decode y9_readFacts.2.1 84 = .ok (.iconst (-1), 1) := by decide +kernel
theorem d9_readFacts_85 : decode y9_readFacts.2.1 85 = .ok (.if_icmp .ne 13, 3) := by decide +kernel
theorem d9_readFacts_88 : decode y9_readFacts.2.1 88 = .ok (.aload_n 0, 1) := by decide +kernel
theorem d9_readFacts_89 : decode y9_readFacts.2.1 89 = .ok (.bipush 7, 2) := by decide +kernel
theorem d9_readFacts_91 : decode y9_readFacts.2.1 91 = .ok (.iconst 0, 1) := by decide +kernel
theorem d9_readFacts_92 : decode y9_readFacts.2.1 92 = .ok (.invokevirtual 63, 3) := by decide +kernel
theorem d9_readFacts_95 : decode y9_readFacts.2.1 95 = .ok (.ifCond .eq 7, 3) := by decide +kernel
theorem d9_readFacts_98 : decode y9_readFacts.2.1 98 = .ok (.iconst 1, 1) := by decide +kernel
theorem d9_readFacts_99 : decode y9_readFacts.2.1 99 = .ok (.goto 4, 3) := by decide +kernel
theorem d9_readFacts_102 : decode y9_readFacts.2.1 102 = .ok (.iconst 0, 1) := by decide +kernel
theorem d9_readFacts_103 : decode y9_readFacts.2.1 103 = .ok (.ireturn, 1) := by decide +kernel
theorem d9_readWithin_0 : decode y9_readWithin.2.1 0 = .ok (.aload_n 0, 1) := by decide +kernel
theorem d9_readWithin_1 : decode y9_readWithin.2.1 1 = .ok (.invokevirtual 89, 3) := by decide +kernel
theorem d9_readWithin_4 : decode y9_readWithin.2.1 4 = .ok (.ifCond .ne 5, 3) := by decide +kernel
theorem d9_readWithin_7 : decode y9_readWithin.2.1 7 = .ok (.iconst 0, 1) := by decide +kernel
theorem d9_readWithin_8 : decode y9_readWithin.2.1 8 = .ok (.ireturn, 1) := by decide +kernel
theorem d9_readWithin_9 : decode y9_readWithin.2.1 9 = .ok (.aload_n 0, 1) := by decide +kernel
theorem d9_readWithin_10 : decode y9_readWithin.2.1 10 = .ok (.getfield 86, 3) := by decide +kernel
theorem d9_readWithin_13 : decode y9_readWithin.2.1 13 = .ok (.iload_n 1, 1) := by decide +kernel
theorem d9_readWithin_14 : decode y9_readWithin.2.1 14 = .ok (.if_icmp .lt 11, 3) := by decide +kernel
theorem d9_readWithin_17 : decode y9_readWithin.2.1 17 = .ok (.aload_n 0, 1) := by decide +kernel
theorem d9_readWithin_18 : decode y9_readWithin.2.1 18 = .ok (.getfield 86, 3) := by decide +kernel
theorem d9_readWithin_21 : decode y9_readWithin.2.1 21 = .ok (.iload_n 2, 1) := by decide +kernel
theorem d9_readWithin_22 : decode y9_readWithin.2.1 22 = .ok (.if_icmp .le 17, 3) := by decide +kernel
theorem d9_readWithin_25 : decode y9_readWithin.2.1 25 = .ok (.aload_n 0, 1) := by decide +kernel
theorem d9_readWithin_26 : decode y9_readWithin.2.1 26 = .ok (.iconst 3, 1) := by decide +kernel
theorem d9_readWithin_27 : decode y9_readWithin.2.1 27 = .ok (.aload_n 0, 1) := by decide +kernel
theorem d9_readWithin_28 : decode y9_readWithin.2.1 28 = .ok (.getfield 39, 3) := by decide +kernel
theorem d9_readWithin_31 : decode y9_readWithin.2.1 31 = .ok (.iconst 1, 1) := by decide +kernel
theorem d9_readWithin_32 : decode y9_readWithin.2.1 32 = .ok (.isub, 1) := by decide +kernel
theorem d9_readWithin_33 : decode y9_readWithin.2.1 33 = .ok (.invokevirtual 63, 3) := by decide +kernel
theorem d9_readWithin_36 : decode y9_readWithin.2.1 36 = .ok (.ifCond .eq 7, 3) := by decide +kernel
theorem d9_readWithin_39 : decode y9_readWithin.2.1 39 = .ok (.iconst 1, 1) := by decide +kernel
theorem d9_readWithin_40 : decode y9_readWithin.2.1 40 = .ok (.goto 4, 3) := by decide +kernel
theorem d9_readWithin_43 : decode y9_readWithin.2.1 43 = .ok (.iconst 0, 1) := by decide +kernel
theorem d9_readWithin_44 : decode y9_readWithin.2.1 44 = .ok (.ireturn, 1) := by decide +kernel
theorem d9_readAny_0 : decode y9_readAny.2.1 0 = .ok (.aload_n 0, 1) := by decide +kernel
theorem d9_readAny_1 : decode y9_readAny.2.1 1 = .ok (.getfield 39, 3) := by decide +kernel
theorem d9_readAny_4 : decode y9_readAny.2.1 4 = .ok (.aload_n 0, 1) := by decide +kernel
theorem d9_readAny_5 : decode y9_readAny.2.1 5 = .ok (.getfield 35, 3) := by decide +kernel
theorem d9_readAny_8 : decode y9_readAny.2.1 8 = .ok (.getfield 77, 3) := by decide +kernel
theorem d9_readAny_11 : decode y9_readAny.2.1 11 = .ok (.if_icmp .lt 16, 3) := by decide +kernel
theorem d9_readAny_14 : decode y9_readAny.2.1 14 = .ok (.aload_n 0, 1) := by decide +kernel
theorem d9_readAny_15 : decode y9_readAny.2.1 15 = .ok (.iconst 2, 1) := by decide +kernel
theorem d9_readAny_16 : decode y9_readAny.2.1 16 = .ok (.aload_n 0, 1) := by decide +kernel
theorem d9_readAny_17 : decode y9_readAny.2.1 17 = .ok (.getfield 35, 3) := by decide +kernel
theorem d9_readAny_20 : decode y9_readAny.2.1 20 = .ok (.getfield 77, 3) := by decide +kernel
theorem d9_readAny_23 : decode y9_readAny.2.1 23 = .ok (.invokevirtual 63, 3) := by decide +kernel
theorem d9_readAny_26 : decode y9_readAny.2.1 26 = .ok (.ireturn, 1) := by decide +kernel
theorem d9_readAny_27 : decode y9_readAny.2.1 27 = .ok (.aload_n 0, 1) := by decide +kernel
theorem d9_readAny_28 : decode y9_readAny.2.1 28 = .ok (.aload_n 0, 1) := by decide +kernel
theorem d9_readAny_29 : decode y9_readAny.2.1 29 = .ok (.getfield 35, 3) := by decide +kernel
theorem d9_readAny_32 : decode y9_readAny.2.1 32 = .ok (.aload_n 0, 1) := by decide +kernel
theorem d9_readAny_33 : decode y9_readAny.2.1 33 = .ok (.getfield 39, 3) := by decide +kernel
theorem d9_readAny_36 : decode y9_readAny.2.1 36 = .ok (.invokevirtual 82, 3) := by decide +kernel
theorem d9_readAny_39 : decode y9_readAny.2.1 39 = .ok (.putfield 86, 3) := by decide +kernel
theorem d9_readAny_42 : decode y9_readAny.2.1 42 = .ok (.aload_n 0, 1) := by decide +kernel
theorem d9_readAny_43 : decode y9_readAny.2.1 43 = .ok (.dup, 1) := by decide +kernel
theorem d9_readAny_44 : decode y9_readAny.2.1 44 = .ok (.getfield 39, 3) := by decide +kernel
theorem d9_readAny_47 : decode y9_readAny.2.1 47 = .ok (.iconst 1, 1) := by decide +kernel
theorem d9_readAny_48 : decode y9_readAny.2.1 48 = .ok (.iadd, 1) := by decide +kernel
theorem d9_readAny_49 : decode y9_readAny.2.1 49 = .ok (.putfield 39, 3) := by decide +kernel
theorem d9_readAny_52 : decode y9_readAny.2.1 52 = .ok (.iconst 1, 1) := by decide +kernel
theorem d9_readAny_53 : decode y9_readAny.2.1 53 = .ok (.ireturn, 1) := by decide +kernel
theorem d9_refuse_0 : decode y9_refuse.2.1 0 = .ok (.aload_n 0, 1) := by decide +kernel
theorem d9_refuse_1 : decode y9_refuse.2.1 1 = .ok (.iload_n 1, 1) := by decide +kernel
theorem d9_refuse_2 : decode y9_refuse.2.1 2 = .ok (.putfield 43, 3) := by decide +kernel
theorem d9_refuse_5 : decode y9_refuse.2.1 5 = .ok (.aload_n 0, 1) := by decide +kernel
theorem d9_refuse_6 : decode y9_refuse.2.1 6 = .ok (.iload_n 2, 1) := by decide +kernel
theorem d9_refuse_7 : decode y9_refuse.2.1 7 = .ok (.putfield 46, 3) := by decide +kernel
theorem d9_refuse_10 : decode y9_refuse.2.1 10 = .ok (.iconst 0, 1) := by decide +kernel
theorem d9_refuse_11 : decode y9_refuse.2.1 11 = .ok (.ireturn, 1) := by decide +kernel
theorem d9_readFact_0 : decode y9_readFact.2.1 0 = .ok (.aload_n 0, 1) := by decide +kernel
theorem d9_readFact_1 : decode y9_readFact.2.1 1 = .ok (.iconst 0, 1) := by decide +kernel
theorem d9_readFact_2 : decode y9_readFact.2.1 2 = .ok (.bipush 9, 2) := by decide +kernel
theorem d9_readFact_4 : decode y9_readFact.2.1 4 = .ok (.invokevirtual 92, 3) := by decide +kernel
theorem d9_readFact_7 : decode y9_readFact.2.1 7 = .ok (.ifCond .ne 5, 3) := by decide +kernel
theorem d9_readFact_10 : decode y9_readFact.2.1 10 = .ok (.iconst 0, 1) := by decide +kernel
theorem d9_readFact_11 : decode y9_readFact.2.1 11 = .ok (.ireturn, 1) := by decide +kernel
theorem d9_readFact_12 : decode y9_readFact.2.1 12 = .ok (.aload_n 0, 1) := by decide +kernel
theorem d9_readFact_13 : decode y9_readFact.2.1 13 = .ok (.getfield 86, 3) := by decide +kernel
theorem d9_readFact_16 : decode y9_readFact.2.1 16 = .ok (.istore_n 1, 1) := by decide +kernel
theorem d9_readFact_17 : decode y9_readFact.2.1 17 = .ok (.aload_n 0, 1) := by decide +kernel
theorem d9_readFact_18 : decode y9_readFact.2.1 18 = .ok (.iconst 0, 1) := by decide +kernel
theorem d9_readFact_19 : decode y9_readFact.2.1 19 = .ok (.bipush 9, 2) := by decide +kernel
theorem d9_readFact_21 : decode y9_readFact.2.1 21 = .ok (.invokevirtual 92, 3) := by decide +kernel
theorem d9_readFact_24 : decode y9_readFact.2.1 24 = .ok (.ifCond .ne 5, 3) := by decide +kernel
theorem d9_readFact_27 : decode y9_readFact.2.1 27 = .ok (.iconst 0, 1) := by decide +kernel
theorem d9_readFact_28 : decode y9_readFact.2.1 28 = .ok (.ireturn, 1) := by decide +kernel
theorem d9_readFact_29 : decode y9_readFact.2.1 29 = .ok (.aload_n 0, 1) := by decide +kernel
theorem d9_readFact_30 : decode y9_readFact.2.1 30 = .ok (.getfield 86, 3) := by decide +kernel
theorem d9_readFact_33 : decode y9_readFact.2.1 33 = .ok (.iload_n 1, 1) := by decide +kernel
theorem d9_readFact_34 : decode y9_readFact.2.1 34 = .ok (.if_icmp .ne 15, 3) := by decide +kernel
theorem d9_readFact_37 : decode y9_readFact.2.1 37 = .ok (.aload_n 0, 1) := by decide +kernel
theorem d9_readFact_38 : decode y9_readFact.2.1 38 = .ok (.iconst 3, 1) := by decide +kernel
theorem d9_readFact_39 : decode y9_readFact.2.1 39 = .ok (.aload_n 0, 1) := by decide +kernel
theorem d9_readFact_40 : decode y9_readFact.2.1 40 = .ok (.getfield 39, 3) := by decide +kernel
theorem d9_readFact_43 : decode y9_readFact.2.1 43 = .ok (.iconst 1, 1) := by decide +kernel
theorem d9_readFact_44 : decode y9_readFact.2.1 44 = .ok (.isub, 1) := by decide +kernel
theorem d9_readFact_45 : decode y9_readFact.2.1 45 = .ok (.invokevirtual 63, 3) := by decide +kernel
theorem d9_readFact_48 : decode y9_readFact.2.1 48 = .ok (.ireturn, 1) := by decide +kernel
theorem d9_readFact_49 : decode y9_readFact.2.1 49 = .ok (.aload_n 0, 1) := by decide +kernel
theorem d9_readFact_50 : decode y9_readFact.2.1 50 = .ok (.invokevirtual 89, 3) := by decide +kernel
theorem d9_readFact_53 : decode y9_readFact.2.1 53 = .ok (.ireturn, 1) := by decide +kernel
theorem d9_readReasonsFor_0 : decode y9_readReasonsFor.2.1 0 = .ok (.iconst 0, 1) := by decide +kernel
theorem d9_readReasonsFor_1 : decode y9_readReasonsFor.2.1 1 = .ok (.istore 4, 2) := by decide +kernel
theorem d9_readReasonsFor_3 : decode y9_readReasonsFor.2.1 3 = .ok (.iload 4, 2) := by decide +kernel
theorem d9_readReasonsFor_5 : decode y9_readReasonsFor.2.1 5 = .ok (.aload_n 0, 1) := by decide +kernel
theorem d9_readReasonsFor_6 : decode y9_readReasonsFor.2.1 6 = .ok (.getfield 9, 3) := by decide +kernel
theorem d9_readReasonsFor_9 : decode y9_readReasonsFor.2.1 9 = .ok (.iload_n 1, 1) := by decide +kernel
theorem d9_readReasonsFor_10 : decode y9_readReasonsFor.2.1 10 = .ok (.iaload, 1) := by decide +kernel
theorem d9_readReasonsFor_11 : decode y9_readReasonsFor.2.1 11 = .ok (.if_icmp .ge 65, 3) := by decide +kernel
theorem d9_readReasonsFor_14 : decode y9_readReasonsFor.2.1 14 = .ok (.aload_n 0, 1) := by decide +kernel
theorem d9_readReasonsFor_15 : decode y9_readReasonsFor.2.1 15 = .ok (.getfield 15, 3) := by decide +kernel
theorem d9_readReasonsFor_18 : decode y9_readReasonsFor.2.1 18 = .ok (.iload_n 1, 1) := by decide +kernel
theorem d9_readReasonsFor_19 : decode y9_readReasonsFor.2.1 19 = .ok (.iaload, 1) := by decide +kernel
theorem d9_readReasonsFor_20 : decode y9_readReasonsFor.2.1 20 = .ok (.iconst 3, 1) := by decide +kernel
theorem d9_readReasonsFor_21 : decode y9_readReasonsFor.2.1 21 = .ok (.iload 4, 2) := by decide +kernel
theorem d9_readReasonsFor_23 : decode y9_readReasonsFor.2.1 23 = .ok (.imul, 1) := by decide +kernel
theorem d9_readReasonsFor_24 : decode y9_readReasonsFor.2.1 24 = .ok (.iadd, 1) := by decide +kernel
theorem d9_readReasonsFor_25 : decode y9_readReasonsFor.2.1 25 = .ok (.istore 5, 2) := by decide +kernel
theorem d9_readReasonsFor_27 : decode y9_readReasonsFor.2.1 27 = .ok (.aload_n 0, 1) := by decide +kernel
theorem d9_readReasonsFor_28 : decode y9_readReasonsFor.2.1 28 = .ok (.iload_n 2, 1) := by decide +kernel
theorem d9_readReasonsFor_29 : decode y9_readReasonsFor.2.1 29 = .ok (.iload_n 3, 1) := by decide +kernel
theorem d9_readReasonsFor_30 : decode y9_readReasonsFor.2.1 30 = .ok (.aload_n 0, 1) := by decide +kernel
theorem d9_readReasonsFor_31 : decode y9_readReasonsFor.2.1 31 = .ok (.getfield 35, 3) := by decide +kernel
theorem d9_readReasonsFor_34 : decode y9_readReasonsFor.2.1 34 = .ok (.iload 5, 2) := by decide +kernel
theorem d9_readReasonsFor_36 : decode y9_readReasonsFor.2.1 36 = .ok (.invokevirtual 82, 3) := by decide +kernel
theorem d9_readReasonsFor_39 : decode y9_readReasonsFor.2.1 39 = .ok (.aload_n 0, 1) := by decide +kernel
theorem d9_readReasonsFor_40 : decode y9_readReasonsFor.2.1 40 = .ok (.getfield 35, 3) := by decide +kernel
theorem d9_readReasonsFor_43 : decode y9_readReasonsFor.2.1 43 = .ok (.iload 5, 2) := by decide +kernel
theorem d9_readReasonsFor_45 : decode y9_readReasonsFor.2.1 45 = .ok (.iconst 1, 1) := by decide +kernel
theorem d9_readReasonsFor_46 : decode y9_readReasonsFor.2.1 46 = .ok (.iadd, 1) := by decide +kernel
theorem d9_readReasonsFor_47 : decode y9_readReasonsFor.2.1 47 = .ok (.invokevirtual 82, 3) := by decide +kernel
theorem d9_readReasonsFor_50 : decode y9_readReasonsFor.2.1 50 = .ok (.aload_n 0, 1) := by decide +kernel
theorem d9_readReasonsFor_51 : decode y9_readReasonsFor.2.1 51 = .ok (.getfield 35, 3) := by decide +kernel
theorem d9_readReasonsFor_54 : decode y9_readReasonsFor.2.1 54 = .ok (.iload 5, 2) := by decide +kernel
theorem d9_readReasonsFor_56 : decode y9_readReasonsFor.2.1 56 = .ok (.iconst 2, 1) := by decide +kernel
theorem d9_readReasonsFor_57 : decode y9_readReasonsFor.2.1 57 = .ok (.iadd, 1) := by decide +kernel
theorem d9_readReasonsFor_58 : decode y9_readReasonsFor.2.1 58 = .ok (.invokevirtual 82, 3) := by decide +kernel
theorem d9_readReasonsFor_61 : decode y9_readReasonsFor.2.1 61 = .ok (.i2l, 1) := by decide +kernel
theorem d9_readReasonsFor_62 : decode y9_readReasonsFor.2.1 62 = .ok (.invokevirtual 113, 3) := by decide +kernel
theorem d9_readReasonsFor_65 : decode y9_readReasonsFor.2.1 65 = .ok (.ifCond .ne 5, 3) := by decide +kernel
theorem d9_readReasonsFor_68 : decode y9_readReasonsFor.2.1 68 = .ok (.iconst 0, 1) := by decide +kernel
theorem d9_readReasonsFor_69 : decode y9_readReasonsFor.2.1 69 = .ok (.ireturn, 1) := by decide +kernel
theorem d9_readReasonsFor_70 : decode y9_readReasonsFor.2.1 70 = .ok (.iinc 4 1, 3) := by decide +kernel
theorem d9_readReasonsFor_73 : decode y9_readReasonsFor.2.1 73 = .ok (.goto (-70), 3) := by decide +kernel
theorem d9_readReasonsFor_76 : decode y9_readReasonsFor.2.1 76 = .ok (.iconst 1, 1) := by decide +kernel
theorem d9_readReasonsFor_77 : decode y9_readReasonsFor.2.1 77 = .ok (.ireturn, 1) := by decide +kernel
theorem d9_readReason_0 : decode y9_readReason.2.1 0 = .ok (.aload_n 0, 1) := by decide +kernel
theorem d9_readReason_1 : decode y9_readReason.2.1 1 = .ok (.getfield 39, 3) := by decide +kernel
theorem d9_readReason_4 : decode y9_readReason.2.1 4 = .ok (.istore 7, 2) := by decide +kernel
theorem d9_readReason_6 : decode y9_readReason.2.1 6 = .ok (.aload_n 0, 1) := by decide +kernel
theorem d9_readReason_7 : decode y9_readReason.2.1 7 = .ok (.iconst 1, 1) := by decide +kernel
theorem d9_readReason_8 : decode y9_readReason.2.1 8 = .ok (.bipush 12, 2) := by decide +kernel
theorem d9_readReason_10 : decode y9_readReason.2.1 10 = .ok (.invokevirtual 92, 3) := by decide +kernel
theorem d9_readReason_13 : decode y9_readReason.2.1 13 = .ok (.ifCond .ne 5, 3) := by decide +kernel
theorem d9_readReason_16 : decode y9_readReason.2.1 16 = .ok (.iconst 0, 1) := by decide +kernel
theorem d9_readReason_17 : decode y9_readReason.2.1 17 = .ok (.ireturn, 1) := by decide +kernel
theorem d9_readReason_18 : decode y9_readReason.2.1 18 = .ok (.aload_n 0, 1) := by decide +kernel
theorem d9_readReason_19 : decode y9_readReason.2.1 19 = .ok (.getfield 86, 3) := by decide +kernel
theorem d9_readReason_22 : decode y9_readReason.2.1 22 = .ok (.istore 8, 2) := by decide +kernel
theorem d9_readReason_24 : decode y9_readReason.2.1 24 = .ok (.iload_n 3, 1) := by decide +kernel
theorem d9_readReason_25 : decode y9_readReason.2.1 25 = .ok (.istore 9, 2) := by decide +kernel
theorem d9_readReason_27 : decode y9_readReason.2.1 27 = .ok (.lconst 0, 1) := by decide +kernel
theorem d9_readReason_28 : decode y9_readReason.2.1 28 = .ok (.lstore 10, 2) := by decide +kernel
theorem d9_readReason_30 : decode y9_readReason.2.1 30 = .ok (.iload 8, 2) := by decide +kernel
theorem d9_readReason_32 : decode y9_readReason.2.1 32 = .ok (.istore 12, 2) := by decide +kernel
theorem d9_readReason_34 : decode y9_readReason.2.1 34 = .ok (.iload 12, 2) := by decide +kernel
theorem d9_readReason_36 : decode y9_readReason.2.1 36 = .ok (.ifCond .le 106, 3) := by decide +kernel
theorem d9_readReason_39 : decode y9_readReason.2.1 39 = .ok (.aload_n 0, 1) := by decide +kernel
theorem d9_readReason_40 : decode y9_readReason.2.1 40 = .ok (.invokevirtual 89, 3) := by decide +kernel
theorem d9_readReason_43 : decode y9_readReason.2.1 43 = .ok (.ifCond .ne 5, 3) := by decide +kernel
theorem d9_readReason_46 : decode y9_readReason.2.1 46 = .ok (.iconst 0, 1) := by decide +kernel
theorem d9_readReason_47 : decode y9_readReason.2.1 47 = .ok (.ireturn, 1) := by decide +kernel
theorem d9_readReason_48 : decode y9_readReason.2.1 48 = .ok (.aload_n 0, 1) := by decide +kernel
theorem d9_readReason_49 : decode y9_readReason.2.1 49 = .ok (.iload_n 1, 1) := by decide +kernel
theorem d9_readReason_50 : decode y9_readReason.2.1 50 = .ok (.iload_n 2, 1) := by decide +kernel
theorem d9_readReason_51 : decode y9_readReason.2.1 51 = .ok (.aload_n 0, 1) := by decide +kernel
theorem d9_readReason_52 : decode y9_readReason.2.1 52 = .ok (.getfield 86, 3) := by decide +kernel
theorem d9_readReason_55 : decode y9_readReason.2.1 55 = .ok (.invokevirtual 133, 3) := by decide +kernel
theorem d9_readReason_58 : decode y9_readReason.2.1 58 = .ok (.ifCond .ne 15, 3) := by decide +kernel
theorem d9_readReason_61 : decode y9_readReason.2.1 61 = .ok (.aload_n 0, 1) := by decide +kernel
theorem d9_readReason_62 : decode y9_readReason.2.1 62 = .ok (.iconst 4, 1) := by decide +kernel
theorem d9_readReason_63 : decode y9_readReason.2.1 63 = .ok (.aload_n 0, 1) := by decide +kernel
theorem d9_readReason_64 : decode y9_readReason.2.1 64 = .ok (.getfield 39, 3) := by decide +kernel
theorem d9_readReason_67 : decode y9_readReason.2.1 67 = .ok (.iconst 1, 1) := by decide +kernel
theorem d9_readReason_68 : decode y9_readReason.2.1 68 = .ok (.isub, 1) := by decide +kernel
theorem d9_readReason_69 : decode y9_readReason.2.1 69 = .ok (.invokevirtual 63, 3) := by decide +kernel
theorem d9_readReason_72 : decode y9_readReason.2.1 72 = .ok (.ireturn, 1) := by decide +kernel
theorem d9_readReason_73 : decode y9_readReason.2.1 73 = .ok (.aload_n 0, 1) := by decide +kernel
theorem d9_readReason_74 : decode y9_readReason.2.1 74 = .ok (.getfield 21, 3) := by decide +kernel
theorem d9_readReason_77 : decode y9_readReason.2.1 77 = .ok (.getfield 136, 3) := by decide +kernel
theorem d9_readReason_80 : decode y9_readReason.2.1 80 = .ok (.iload 9, 2) := by decide +kernel
theorem d9_readReason_82 : decode y9_readReason.2.1 82 = .ok (.if_icmp .ne 21, 3) := by decide +kernel
theorem d9_readReason_85 : decode y9_readReason.2.1 85 = .ok (.iload 12, 2) := by decide +kernel
theorem d9_readReason_87 : decode y9_readReason.2.1 87 = .ok (.iconst 1, 1) := by decide +kernel
theorem d9_readReason_88 : decode y9_readReason.2.1 88 = .ok (.if_icmp .ne 27, 3) := by decide +kernel
theorem d9_readReason_91 : decode y9_readReason.2.1 91 = .ok (.aload_n 0, 1) := by decide +kernel
theorem d9_readReason_92 : decode y9_readReason.2.1 92 = .ok (.getfield 21, 3) := by decide +kernel
theorem d9_readReason_95 : decode y9_readReason.2.1 95 = .ok (.getfield 139, 3) := by decide +kernel
theorem d9_readReason_98 : decode y9_readReason.2.1 98 = .ok (.iload 4, 2) := by decide +kernel
theorem d9_readReason_100 : decode y9_readReason.2.1 100 = .ok (.if_icmp .eq 15, 3) := by decide +kernel
theorem d9_readReason_103 : decode y9_readReason.2.1 103 = .ok (.aload_n 0, 1) := by decide +kernel
theorem d9_readReason_104 : decode y9_readReason.2.1 104 = .ok (.iconst 5, 1) := by decide +kernel
theorem d9_readReason_105 : decode y9_readReason.2.1 105 = .ok (.aload_n 0, 1) := by decide +kernel
theorem d9_readReason_106 : decode y9_readReason.2.1 106 = .ok (.getfield 39, 3) := by decide +kernel
theorem d9_readReason_109 : decode y9_readReason.2.1 109 = .ok (.iconst 1, 1) := by decide +kernel
theorem d9_readReason_110 : decode y9_readReason.2.1 110 = .ok (.isub, 1) := by decide +kernel
theorem d9_readReason_111 : decode y9_readReason.2.1 111 = .ok (.invokevirtual 63, 3) := by decide +kernel
theorem d9_readReason_114 : decode y9_readReason.2.1 114 = .ok (.ireturn, 1) := by decide +kernel
theorem d9_readReason_115 : decode y9_readReason.2.1 115 = .ok (.aload_n 0, 1) := by decide +kernel
theorem d9_readReason_116 : decode y9_readReason.2.1 116 = .ok (.getfield 21, 3) := by decide +kernel
theorem d9_readReason_119 : decode y9_readReason.2.1 119 = .ok (.getfield 139, 3) := by decide +kernel
theorem d9_readReason_122 : decode y9_readReason.2.1 122 = .ok (.istore 9, 2) := by decide +kernel
theorem d9_readReason_124 : decode y9_readReason.2.1 124 = .ok (.lload 10, 2) := by decide +kernel
theorem d9_readReason_126 : decode y9_readReason.2.1 126 = .ok (.aload_n 0, 1) := by decide +kernel
theorem d9_readReason_127 : decode y9_readReason.2.1 127 = .ok (.getfield 21, 3) := by decide +kernel
theorem d9_readReason_130 : decode y9_readReason.2.1 130 = .ok (.getfield 142, 3) := by decide +kernel
theorem d9_readReason_133 : decode y9_readReason.2.1 133 = .ok (.ladd, 1) := by decide +kernel
theorem d9_readReason_134 : decode y9_readReason.2.1 134 = .ok (.lstore 10, 2) := by decide +kernel
theorem d9_readReason_136 : decode y9_readReason.2.1 136 = .ok (.iinc 12 (-1), 3) := by decide +kernel
theorem d9_readReason_139 : decode y9_readReason.2.1 139 = .ok (.goto (-105), 3) := by decide +kernel
theorem d9_readReason_142 : decode y9_readReason.2.1 142 = .ok (.lload 10, 2) := by decide +kernel
theorem d9_readReason_144 : decode y9_readReason.2.1 144 = .ok (.lload 5, 2) := by decide +kernel
theorem d9_readReason_146 : decode y9_readReason.2.1 146 = .ok (.lcmp, 1) := by decide +kernel
theorem d9_readReason_147 : decode y9_readReason.2.1 147 = .ok (.ifCond .le 14, 3) := by decide +kernel
theorem d9_readReason_150 : decode y9_readReason.2.1 150 = .ok (.aload_n 0, 1) := by decide +kernel
theorem d9_readReason_151 : decode y9_readReason.2.1 151 = .ok (.bipush 6, 2) := by decide +kernel
theorem d9_readReason_153 : decode y9_readReason.2.1 153 = .ok (.iload 7, 2) := by decide +kernel
theorem d9_readReason_155 : decode y9_readReason.2.1 155 = .ok (.invokevirtual 63, 3) := by decide +kernel
theorem d9_readReason_158 : decode y9_readReason.2.1 158 = .ok (.ifCond .eq 7, 3) := by decide +kernel
theorem d9_readReason_161 : decode y9_readReason.2.1 161 = .ok (.iconst 1, 1) := by decide +kernel
theorem d9_readReason_162 : decode y9_readReason.2.1 162 = .ok (.goto 4, 3) := by decide +kernel
theorem d9_readReason_165 : decode y9_readReason.2.1 165 = .ok (.iconst 0, 1) := by decide +kernel
theorem d9_readReason_166 : decode y9_readReason.2.1 166 = .ok (.ireturn, 1) := by decide +kernel
theorem d9_findStep_0 : decode y9_findStep.2.1 0 = .ok (.iload_n 1, 1) := by decide +kernel
theorem d9_findStep_1 : decode y9_findStep.2.1 1 = .ok (.iconst (-1), 1) := by decide +kernel
theorem d9_findStep_2 : decode y9_findStep.2.1 2 = .ok (.if_icmp .ne 19, 3) := by decide +kernel
theorem d9_findStep_5 : decode y9_findStep.2.1 5 = .ok (.aload_n 0, 1) := by decide +kernel
theorem d9_findStep_6 : decode y9_findStep.2.1 6 = .ok (.getfield 21, 3) := by decide +kernel
theorem d9_findStep_9 : decode y9_findStep.2.1 9 = .ok (.iload_n 3, 1) := by decide +kernel
theorem d9_findStep_10 : decode y9_findStep.2.1 10 = .ok (.aload_n 0, 1) := by decide +kernel
theorem d9_findStep_11 : decode y9_findStep.2.1 11 = .ok (.getfield 31, 3) := by decide +kernel
theorem d9_findStep_14 : decode y9_findStep.2.1 14 = .ok (.getfield 146, 3) := by decide +kernel
theorem d9_findStep_17 : decode y9_findStep.2.1 17 = .ok (.invokevirtual 149, 3) := by decide +kernel
theorem d9_findStep_20 : decode y9_findStep.2.1 20 = .ok (.ireturn, 1) := by decide +kernel
theorem d9_findStep_21 : decode y9_findStep.2.1 21 = .ok (.aload_n 0, 1) := by decide +kernel
theorem d9_findStep_22 : decode y9_findStep.2.1 22 = .ok (.getfield 9, 3) := by decide +kernel
theorem d9_findStep_25 : decode y9_findStep.2.1 25 = .ok (.iload_n 1, 1) := by decide +kernel
theorem d9_findStep_26 : decode y9_findStep.2.1 26 = .ok (.iaload, 1) := by decide +kernel
theorem d9_findStep_27 : decode y9_findStep.2.1 27 = .ok (.istore 4, 2) := by decide +kernel
theorem d9_findStep_29 : decode y9_findStep.2.1 29 = .ok (.aload_n 0, 1) := by decide +kernel
theorem d9_findStep_30 : decode y9_findStep.2.1 30 = .ok (.getfield 31, 3) := by decide +kernel
theorem d9_findStep_33 : decode y9_findStep.2.1 33 = .ok (.getfield 98, 3) := by decide +kernel
theorem d9_findStep_36 : decode y9_findStep.2.1 36 = .ok (.iload_n 1, 1) := by decide +kernel
theorem d9_findStep_37 : decode y9_findStep.2.1 37 = .ok (.aaload, 1) := by decide +kernel
theorem d9_findStep_38 : decode y9_findStep.2.1 38 = .ok (.astore 5, 2) := by decide +kernel
theorem d9_findStep_40 : decode y9_findStep.2.1 40 = .ok (.iload_n 3, 1) := by decide +kernel
theorem d9_findStep_41 : decode y9_findStep.2.1 41 = .ok (.iload 4, 2) := by decide +kernel
theorem d9_findStep_43 : decode y9_findStep.2.1 43 = .ok (.if_icmp .ge 39, 3) := by decide +kernel
theorem d9_findStep_46 : decode y9_findStep.2.1 46 = .ok (.aload_n 0, 1) := by decide +kernel
theorem d9_findStep_47 : decode y9_findStep.2.1 47 = .ok (.aload_n 0, 1) := by decide +kernel
theorem d9_findStep_48 : decode y9_findStep.2.1 48 = .ok (.getfield 21, 3) := by decide +kernel
theorem d9_findStep_51 : decode y9_findStep.2.1 51 = .ok (.iload_n 1, 1) := by decide +kernel
theorem d9_findStep_52 : decode y9_findStep.2.1 52 = .ok (.iload_n 3, 1) := by decide +kernel
theorem d9_findStep_53 : decode y9_findStep.2.1 53 = .ok (.invokevirtual 152, 3) := by decide +kernel
theorem d9_findStep_56 : decode y9_findStep.2.1 56 = .ok (.ifCond .eq 24, 3) := by decide +kernel
theorem d9_findStep_59 : decode y9_findStep.2.1 59 = .ok (.iload_n 2, 1) := by decide +kernel
theorem d9_findStep_60 : decode y9_findStep.2.1 60 = .ok (.iconst (-1), 1) := by decide +kernel
theorem d9_findStep_61 : decode y9_findStep.2.1 61 = .ok (.if_icmp .eq 15, 3) := by decide +kernel
theorem d9_findStep_64 : decode y9_findStep.2.1 64 = .ok (.aload_n 0, 1) := by decide +kernel
theorem d9_findStep_65 : decode y9_findStep.2.1 65 = .ok (.getfield 21, 3) := by decide +kernel
theorem d9_findStep_68 : decode y9_findStep.2.1 68 = .ok (.aload 5, 2) := by decide +kernel
theorem d9_findStep_70 : decode y9_findStep.2.1 70 = .ok (.invokevirtual 156, 3) := by decide +kernel
theorem d9_findStep_73 : decode y9_findStep.2.1 73 = .ok (.ifCond .eq 7, 3) := by decide +kernel
theorem d9_findStep_76 : decode y9_findStep.2.1 76 = .ok (.iconst 1, 1) := by decide +kernel
theorem d9_findStep_77 : decode y9_findStep.2.1 77 = .ok (.goto 4, 3) := by decide +kernel
theorem d9_findStep_80 : decode y9_findStep.2.1 80 = .ok (.iconst 0, 1) := by decide +kernel
theorem d9_findStep_81 : decode y9_findStep.2.1 81 = .ok (.ireturn, 1) := by decide +kernel
theorem d9_findStep_82 : decode y9_findStep.2.1 82 = .ok (.iload_n 2, 1) := by decide +kernel
theorem d9_findStep_83 : decode y9_findStep.2.1 83 = .ok (.iconst (-1), 1) := by decide +kernel
theorem d9_findStep_84 : decode y9_findStep.2.1 84 = .ok (.if_icmp .ne 5, 3) := by decide +kernel
theorem d9_findStep_87 : decode y9_findStep.2.1 87 = .ok (.iconst 0, 1) := by decide +kernel
theorem d9_findStep_88 : decode y9_findStep.2.1 88 = .ok (.ireturn, 1) := by decide +kernel
theorem d9_findStep_89 : decode y9_findStep.2.1 89 = .ok (.iload_n 3, 1) := by decide +kernel
theorem d9_findStep_90 : decode y9_findStep.2.1 90 = .ok (.iload 4, 2) := by decide +kernel
theorem d9_findStep_92 : decode y9_findStep.2.1 92 = .ok (.isub, 1) := by decide +kernel
theorem d9_findStep_93 : decode y9_findStep.2.1 93 = .ok (.istore 6, 2) := by decide +kernel
theorem d9_findStep_95 : decode y9_findStep.2.1 95 = .ok (.aload 5, 2) := by decide +kernel
theorem d9_findStep_97 : decode y9_findStep.2.1 97 = .ok (.getfield 160, 3) := by decide +kernel
theorem d9_findStep_100 : decode y9_findStep.2.1 100 = .ok (.iconst 4, 1) := by decide +kernel
theorem d9_findStep_101 : decode y9_findStep.2.1 101 = .ok (.if_icmp .eq 21, 3) := by decide +kernel
theorem d9_findStep_104 : decode y9_findStep.2.1 104 = .ok (.aload_n 0, 1) := by decide +kernel
theorem d9_findStep_105 : decode y9_findStep.2.1 105 = .ok (.getfield 21, 3) := by decide +kernel
theorem d9_findStep_108 : decode y9_findStep.2.1 108 = .ok (.aload 5, 2) := by decide +kernel
theorem d9_findStep_110 : decode y9_findStep.2.1 110 = .ok (.aload 5, 2) := by decide +kernel
theorem d9_findStep_112 : decode y9_findStep.2.1 112 = .ok (.iload_n 2, 1) := by decide +kernel
theorem d9_findStep_113 : decode y9_findStep.2.1 113 = .ok (.invokevirtual 163, 3) := by decide +kernel
theorem d9_findStep_116 : decode y9_findStep.2.1 116 = .ok (.iload 6, 2) := by decide +kernel
theorem d9_findStep_118 : decode y9_findStep.2.1 118 = .ok (.invokevirtual 166, 3) := by decide +kernel
theorem d9_findStep_121 : decode y9_findStep.2.1 121 = .ok (.ireturn, 1) := by decide +kernel
theorem d9_findStep_122 : decode y9_findStep.2.1 122 = .ok (.iload 4, 2) := by decide +kernel
theorem d9_findStep_124 : decode y9_findStep.2.1 124 = .ok (.ifCond .le 61, 3) := by decide +kernel
theorem d9_findStep_127 : decode y9_findStep.2.1 127 = .ok (.aload_n 0, 1) := by decide +kernel
theorem d9_findStep_128 : decode y9_findStep.2.1 128 = .ok (.aload_n 0, 1) := by decide +kernel
theorem d9_findStep_129 : decode y9_findStep.2.1 129 = .ok (.getfield 25, 3) := by decide +kernel
theorem d9_findStep_132 : decode y9_findStep.2.1 132 = .ok (.iload_n 1, 1) := by decide +kernel
theorem d9_findStep_133 : decode y9_findStep.2.1 133 = .ok (.iload 6, 2) := by decide +kernel
theorem d9_findStep_135 : decode y9_findStep.2.1 135 = .ok (.iload 4, 2) := by decide +kernel
theorem d9_findStep_137 : decode y9_findStep.2.1 137 = .ok (.idiv, 1) := by decide +kernel
theorem d9_findStep_138 : decode y9_findStep.2.1 138 = .ok (.invokevirtual 152, 3) := by decide +kernel
theorem d9_findStep_141 : decode y9_findStep.2.1 141 = .ok (.ifCond .eq 44, 3) := by decide +kernel
theorem d9_findStep_144 : decode y9_findStep.2.1 144 = .ok (.aload_n 0, 1) := by decide +kernel
theorem d9_findStep_145 : decode y9_findStep.2.1 145 = .ok (.aload_n 0, 1) := by decide +kernel
theorem d9_findStep_146 : decode y9_findStep.2.1 146 = .ok (.getfield 28, 3) := by decide +kernel
theorem d9_findStep_149 : decode y9_findStep.2.1 149 = .ok (.iload_n 1, 1) := by decide +kernel
theorem d9_findStep_150 : decode y9_findStep.2.1 150 = .ok (.iload 6, 2) := by decide +kernel
theorem d9_findStep_152 : decode y9_findStep.2.1 152 = .ok (.iload 4, 2) := by decide +kernel
theorem d9_findStep_154 : decode y9_findStep.2.1 154 = .ok (.irem, 1) := by decide +kernel
theorem d9_findStep_155 : decode y9_findStep.2.1 155 = .ok (.invokevirtual 152, 3) := by decide +kernel
theorem d9_findStep_158 : decode y9_findStep.2.1 158 = .ok (.ifCond .eq 27, 3) := by decide +kernel
theorem d9_findStep_161 : decode y9_findStep.2.1 161 = .ok (.aload_n 0, 1) := by decide +kernel
theorem d9_findStep_162 : decode y9_findStep.2.1 162 = .ok (.getfield 21, 3) := by decide +kernel
theorem d9_findStep_165 : decode y9_findStep.2.1 165 = .ok (.aload 5, 2) := by decide +kernel
theorem d9_findStep_167 : decode y9_findStep.2.1 167 = .ok (.aload_n 0, 1) := by decide +kernel
theorem d9_findStep_168 : decode y9_findStep.2.1 168 = .ok (.getfield 25, 3) := by decide +kernel
theorem d9_findStep_171 : decode y9_findStep.2.1 171 = .ok (.aload_n 0, 1) := by decide +kernel
theorem d9_findStep_172 : decode y9_findStep.2.1 172 = .ok (.getfield 28, 3) := by decide +kernel
theorem d9_findStep_175 : decode y9_findStep.2.1 175 = .ok (.invokevirtual 170, 3) := by decide +kernel
theorem d9_findStep_178 : decode y9_findStep.2.1 178 = .ok (.ifCond .eq 7, 3) := by decide +kernel
theorem d9_findStep_181 : decode y9_findStep.2.1 181 = .ok (.iconst 1, 1) := by decide +kernel
theorem d9_findStep_182 : decode y9_findStep.2.1 182 = .ok (.goto 4, 3) := by decide +kernel
theorem d9_findStep_185 : decode y9_findStep.2.1 185 = .ok (.iconst 0, 1) := by decide +kernel
theorem d9_findStep_186 : decode y9_findStep.2.1 186 = .ok (.ireturn, 1) := by decide +kernel
