theorem d9_findFact_0 : decode y9_findFact.2.1 0 = .ok (.iload_n 3, 1) := by decide +kernel
theorem d9_findFact_1 : decode y9_findFact.2.1 1 = .ok (.ifCond .lt 13, 3) := by decide +kernel
theorem d9_findFact_4 : decode y9_findFact.2.1 4 = .ok (.iload_n 3, 1) := by decide +kernel
theorem d9_findFact_5 : decode y9_findFact.2.1 5 = .ok (.aload_n 0, 1) := by decide +kernel
theorem d9_findFact_6 : decode y9_findFact.2.1 6 = .ok (.getfield 9, 3) := by decide +kernel
theorem d9_findFact_9 : decode y9_findFact.2.1 9 = .ok (.iload_n 2, 1) := by decide +kernel
theorem d9_findFact_10 : decode y9_findFact.2.1 10 = .ok (.iaload, 1) := by decide +kernel
theorem d9_findFact_11 : decode y9_findFact.2.1 11 = .ok (.if_icmp .lt 5, 3) := by decide +kernel
theorem d9_findFact_14 : decode y9_findFact.2.1 14 = .ok (.iconst 0, 1) := by decide +kernel
theorem d9_findFact_15 : decode y9_findFact.2.1 15 = .ok (.ireturn, 1) := by decide +kernel
theorem d9_findFact_16 : decode y9_findFact.2.1 16 = .ok (.aload_n 0, 1) := by decide +kernel
theorem d9_findFact_17 : decode y9_findFact.2.1 17 = .ok (.getfield 15, 3) := by decide +kernel
theorem d9_findFact_20 : decode y9_findFact.2.1 20 = .ok (.iload_n 2, 1) := by decide +kernel
theorem d9_findFact_21 : decode y9_findFact.2.1 21 = .ok (.iaload, 1) := by decide +kernel
theorem d9_findFact_22 : decode y9_findFact.2.1 22 = .ok (.iconst 3, 1) := by decide +kernel
theorem d9_findFact_23 : decode y9_findFact.2.1 23 = .ok (.iload_n 3, 1) := by decide +kernel
theorem d9_findFact_24 : decode y9_findFact.2.1 24 = .ok (.imul, 1) := by decide +kernel
theorem d9_findFact_25 : decode y9_findFact.2.1 25 = .ok (.iadd, 1) := by decide +kernel
theorem d9_findFact_26 : decode y9_findFact.2.1 26 = .ok (.istore 4, 2) := by decide +kernel
theorem d9_findFact_28 : decode y9_findFact.2.1 28 = .ok (.aload_n 1, 1) := by decide +kernel
theorem d9_findFact_29 : decode y9_findFact.2.1 29 = .ok (.aload_n 0, 1) := by decide +kernel
theorem d9_findFact_30 : decode y9_findFact.2.1 30 = .ok (.getfield 35, 3) := by decide +kernel
theorem d9_findFact_33 : decode y9_findFact.2.1 33 = .ok (.iload 4, 2) := by decide +kernel
theorem d9_findFact_35 : decode y9_findFact.2.1 35 = .ok (.invokevirtual 82, 3) := by decide +kernel
theorem d9_findFact_38 : decode y9_findFact.2.1 38 = .ok (.aload_n 0, 1) := by decide +kernel
theorem d9_findFact_39 : decode y9_findFact.2.1 39 = .ok (.getfield 35, 3) := by decide +kernel
theorem d9_findFact_42 : decode y9_findFact.2.1 42 = .ok (.iload 4, 2) := by decide +kernel
theorem d9_findFact_44 : decode y9_findFact.2.1 44 = .ok (.iconst 1, 1) := by decide +kernel
theorem d9_findFact_45 : decode y9_findFact.2.1 45 = .ok (.iadd, 1) := by decide +kernel
theorem d9_findFact_46 : decode y9_findFact.2.1 46 = .ok (.invokevirtual 82, 3) := by decide +kernel
theorem d9_findFact_49 : decode y9_findFact.2.1 49 = .ok (.aload_n 0, 1) := by decide +kernel
theorem d9_findFact_50 : decode y9_findFact.2.1 50 = .ok (.getfield 35, 3) := by decide +kernel
theorem d9_findFact_53 : decode y9_findFact.2.1 53 = .ok (.iload 4, 2) := by decide +kernel
theorem d9_findFact_55 : decode y9_findFact.2.1 55 = .ok (.iconst 2, 1) := by decide +kernel
theorem d9_findFact_56 : decode y9_findFact.2.1 56 = .ok (.iadd, 1) := by decide +kernel
theorem d9_findFact_57 : decode y9_findFact.2.1 57 = .ok (.invokevirtual 82, 3) := by decide +kernel
theorem d9_findFact_60 : decode y9_findFact.2.1 60 = .ok (.i2l, 1) := by decide +kernel
theorem d9_findFact_61 : decode y9_findFact.2.1 61 = .ok (.invokevirtual 174, 3) := by decide +kernel
theorem d9_findFact_64 : decode y9_findFact.2.1 64 = .ok (.ireturn, 1) := by decide +kernel
theorem d9_readAccess_0 : decode y9_readAccess.2.1 0 = .ok (.aload_n 0, 1) := by decide +kernel
theorem d9_readAccess_1 : decode y9_readAccess.2.1 1 = .ok (.getfield 31, 3) := by decide +kernel
theorem d9_readAccess_4 : decode y9_readAccess.2.1 4 = .ok (.getfield 98, 3) := by decide +kernel
theorem d9_readAccess_7 : decode y9_readAccess.2.1 7 = .ok (.iload_n 1, 1) := by decide +kernel
theorem d9_readAccess_8 : decode y9_readAccess.2.1 8 = .ok (.aaload, 1) := by decide +kernel
theorem d9_readAccess_9 : decode y9_readAccess.2.1 9 = .ok (.astore_n 2, 1) := by decide +kernel
theorem d9_readAccess_10 : decode y9_readAccess.2.1 10 = .ok (.aload_n 2, 1) := by decide +kernel
theorem d9_readAccess_11 : decode y9_readAccess.2.1 11 = .ok (.invokevirtual 102, 3) := by decide +kernel
theorem d9_readAccess_14 : decode y9_readAccess.2.1 14 = .ok (.ifCond .ne 5, 3) := by decide +kernel
theorem d9_readAccess_17 : decode y9_readAccess.2.1 17 = .ok (.iconst 1, 1) := by decide +kernel
theorem d9_readAccess_18 : decode y9_readAccess.2.1 18 = .ok (.ireturn, 1) := by decide +kernel
theorem d9_readAccess_19 : decode y9_readAccess.2.1 19 = .ok (.iconst 1, 1) := by decide +kernel
theorem d9_readAccess_20 : decode y9_readAccess.2.1 20 = .ok (.aload_n 2, 1) := by decide +kernel
theorem d9_readAccess_21 : decode y9_readAccess.2.1 21 = .ok (.getfield 107, 3) := by decide +kernel
theorem d9_readAccess_24 : decode y9_readAccess.2.1 24 = .ok (.iadd, 1) := by decide +kernel
theorem d9_readAccess_25 : decode y9_readAccess.2.1 25 = .ok (.istore_n 3, 1) := by decide +kernel
theorem d9_readAccess_26 : decode y9_readAccess.2.1 26 = .ok (.aload_n 0, 1) := by decide +kernel
theorem d9_readAccess_27 : decode y9_readAccess.2.1 27 = .ok (.iload_n 1, 1) := by decide +kernel
theorem d9_readAccess_28 : decode y9_readAccess.2.1 28 = .ok (.iconst (-1), 1) := by decide +kernel
theorem d9_readAccess_29 : decode y9_readAccess.2.1 29 = .ok (.iconst 0, 1) := by decide +kernel
theorem d9_readAccess_30 : decode y9_readAccess.2.1 30 = .ok (.iload_n 3, 1) := by decide +kernel
theorem d9_readAccess_31 : decode y9_readAccess.2.1 31 = .ok (.aload_n 2, 1) := by decide +kernel
theorem d9_readAccess_32 : decode y9_readAccess.2.1 32 = .ok (.getfield 110, 3) := by decide +kernel
theorem d9_readAccess_35 : decode y9_readAccess.2.1 35 = .ok (.i2l, 1) := by decide +kernel
theorem d9_readAccess_36 : decode y9_readAccess.2.1 36 = .ok (.invokevirtual 113, 3) := by decide +kernel
theorem d9_readAccess_39 : decode y9_readAccess.2.1 39 = .ok (.ifCond .eq 25, 3) := by decide +kernel
theorem d9_readAccess_42 : decode y9_readAccess.2.1 42 = .ok (.aload_n 0, 1) := by decide +kernel
theorem d9_readAccess_43 : decode y9_readAccess.2.1 43 = .ok (.iload_n 1, 1) := by decide +kernel
theorem d9_readAccess_44 : decode y9_readAccess.2.1 44 = .ok (.iconst (-1), 1) := by decide +kernel
theorem d9_readAccess_45 : decode y9_readAccess.2.1 45 = .ok (.iload_n 3, 1) := by decide +kernel
theorem d9_readAccess_46 : decode y9_readAccess.2.1 46 = .ok (.aload_n 2, 1) := by decide +kernel
theorem d9_readAccess_47 : decode y9_readAccess.2.1 47 = .ok (.invokevirtual 117, 3) := by decide +kernel
theorem d9_readAccess_50 : decode y9_readAccess.2.1 50 = .ok (.aload_n 2, 1) := by decide +kernel
theorem d9_readAccess_51 : decode y9_readAccess.2.1 51 = .ok (.invokevirtual 120, 3) := by decide +kernel
theorem d9_readAccess_54 : decode y9_readAccess.2.1 54 = .ok (.invokevirtual 113, 3) := by decide +kernel
theorem d9_readAccess_57 : decode y9_readAccess.2.1 57 = .ok (.ifCond .eq 7, 3) := by decide +kernel
theorem d9_readAccess_60 : decode y9_readAccess.2.1 60 = .ok (.iconst 1, 1) := by decide +kernel
theorem d9_readAccess_61 : decode y9_readAccess.2.1 61 = .ok (.goto 4, 3) := by decide +kernel
theorem d9_readAccess_64 : decode y9_readAccess.2.1 64 = .ok (.iconst 0, 1) := by decide +kernel
theorem d9_readAccess_65 : decode y9_readAccess.2.1 65 = .ok (.ireturn, 1) := by decide +kernel
theorem d9_readEdges_0 : decode y9_readEdges.2.1 0 = .ok (.aload_n 0, 1) := by decide +kernel
theorem d9_readEdges_1 : decode y9_readEdges.2.1 1 = .ok (.getfield 31, 3) := by decide +kernel
theorem d9_readEdges_4 : decode y9_readEdges.2.1 4 = .ok (.getfield 98, 3) := by decide +kernel
theorem d9_readEdges_7 : decode y9_readEdges.2.1 7 = .ok (.iload_n 1, 1) := by decide +kernel
theorem d9_readEdges_8 : decode y9_readEdges.2.1 8 = .ok (.aaload, 1) := by decide +kernel
theorem d9_readEdges_9 : decode y9_readEdges.2.1 9 = .ok (.astore_n 2, 1) := by decide +kernel
theorem d9_readEdges_10 : decode y9_readEdges.2.1 10 = .ok (.iconst 0, 1) := by decide +kernel
theorem d9_readEdges_11 : decode y9_readEdges.2.1 11 = .ok (.istore_n 3, 1) := by decide +kernel
theorem d9_readEdges_12 : decode y9_readEdges.2.1 12 = .ok (.iload_n 3, 1) := by decide +kernel
theorem d9_readEdges_13 : decode y9_readEdges.2.1 13 = .ok (.aload_n 2, 1) := by decide +kernel
theorem d9_readEdges_14 : decode y9_readEdges.2.1 14 = .ok (.invokevirtual 124, 3) := by decide +kernel
theorem d9_readEdges_17 : decode y9_readEdges.2.1 17 = .ok (.if_icmp .ge 121, 3) := by decide +kernel
theorem d9_readEdges_20 : decode y9_readEdges.2.1 20 = .ok (.aload_n 0, 1) := by decide +kernel
theorem d9_readEdges_21 : decode y9_readEdges.2.1 21 = .ok (.iconst 0, 1) := by decide +kernel
theorem d9_readEdges_22 : decode y9_readEdges.2.1 22 = .ok (.iconst 1, 1) := by decide +kernel
theorem d9_readEdges_23 : decode y9_readEdges.2.1 23 = .ok (.invokevirtual 92, 3) := by decide +kernel
theorem d9_readEdges_26 : decode y9_readEdges.2.1 26 = .ok (.ifCond .ne 5, 3) := by decide +kernel
theorem d9_readEdges_29 : decode y9_readEdges.2.1 29 = .ok (.iconst 0, 1) := by decide +kernel
theorem d9_readEdges_30 : decode y9_readEdges.2.1 30 = .ok (.ireturn, 1) := by decide +kernel
theorem d9_readEdges_31 : decode y9_readEdges.2.1 31 = .ok (.aload_n 2, 1) := by decide +kernel
theorem d9_readEdges_32 : decode y9_readEdges.2.1 32 = .ok (.iload_n 1, 1) := by decide +kernel
theorem d9_readEdges_33 : decode y9_readEdges.2.1 33 = .ok (.iload_n 3, 1) := by decide +kernel
theorem d9_readEdges_34 : decode y9_readEdges.2.1 34 = .ok (.invokevirtual 127, 3) := by decide +kernel
theorem d9_readEdges_37 : decode y9_readEdges.2.1 37 = .ok (.istore 4, 2) := by decide +kernel
theorem d9_readEdges_39 : decode y9_readEdges.2.1 39 = .ok (.aload_n 0, 1) := by decide +kernel
theorem d9_readEdges_40 : decode y9_readEdges.2.1 40 = .ok (.getfield 86, 3) := by decide +kernel
theorem d9_readEdges_43 : decode y9_readEdges.2.1 43 = .ok (.ifCond .ne 27, 3) := by decide +kernel
theorem d9_readEdges_46 : decode y9_readEdges.2.1 46 = .ok (.aload_n 0, 1) := by decide +kernel
theorem d9_readEdges_47 : decode y9_readEdges.2.1 47 = .ok (.getfield 9, 3) := by decide +kernel
theorem d9_readEdges_50 : decode y9_readEdges.2.1 50 = .ok (.iload 4, 2) := by decide +kernel
theorem d9_readEdges_52 : decode y9_readEdges.2.1 52 = .ok (.iaload, 1) := by decide +kernel
theorem d9_readEdges_53 : decode y9_readEdges.2.1 53 = .ok (.iconst (-1), 1) := by decide +kernel
theorem d9_readEdges_54 : decode y9_readEdges.2.1 54 = .ok (.if_icmp .ne 16, 3) := by decide +kernel
theorem d9_readEdges_57 : decode y9_readEdges.2.1 57 = .ok (.aload_n 0, 1) := by decide +kernel
theorem d9_readEdges_58 : decode y9_readEdges.2.1 58 = .ok (.bipush 7, 2) := by decide +kernel
theorem d9_readEdges_60 : decode y9_readEdges.2.1 60 = .ok (.aload_n 0, 1) := by decide +kernel
theorem d9_readEdges_61 : decode y9_readEdges.2.1 61 = .ok (.getfield 39, 3) := by decide +kernel
theorem d9_readEdges_64 : decode y9_readEdges.2.1 64 = .ok (.iconst 1, 1) := by decide +kernel
theorem d9_readEdges_65 : decode y9_readEdges.2.1 65 = .ok (.isub, 1) := by decide +kernel
theorem d9_readEdges_66 : decode y9_readEdges.2.1 66 = .ok (.invokevirtual 63, 3) := by decide +kernel
theorem d9_readEdges_69 : decode y9_readEdges.2.1 69 = .ok (.ireturn, 1) := by decide +kernel
theorem d9_readEdges_70 : decode y9_readEdges.2.1 70 = .ok (.aload_n 0, 1) := by decide +kernel
theorem d9_readEdges_71 : decode y9_readEdges.2.1 71 = .ok (.getfield 86, 3) := by decide +kernel
theorem d9_readEdges_74 : decode y9_readEdges.2.1 74 = .ok (.ifCond .ne 14, 3) := by decide +kernel
theorem d9_readEdges_77 : decode y9_readEdges.2.1 77 = .ok (.aload_n 0, 1) := by decide +kernel
theorem d9_readEdges_78 : decode y9_readEdges.2.1 78 = .ok (.iload 4, 2) := by decide +kernel
theorem d9_readEdges_80 : decode y9_readEdges.2.1 80 = .ok (.iload_n 1, 1) := by decide +kernel
theorem d9_readEdges_81 : decode y9_readEdges.2.1 81 = .ok (.iload_n 3, 1) := by decide +kernel
theorem d9_readEdges_82 : decode y9_readEdges.2.1 82 = .ok (.invokevirtual 59, 3) := by decide +kernel
theorem d9_readEdges_85 : decode y9_readEdges.2.1 85 = .ok (.goto 38, 3) := by decide +kernel
theorem d9_readEdges_88 : decode y9_readEdges.2.1 88 = .ok (.aload_n 0, 1) := by decide +kernel
theorem d9_readEdges_89 : decode y9_readEdges.2.1 89 = .ok (.iconst 0, 1) := by decide +kernel
theorem d9_readEdges_90 : decode y9_readEdges.2.1 90 = .ok (.bipush 9, 2) := by decide +kernel
theorem d9_readEdges_92 : decode y9_readEdges.2.1 92 = .ok (.invokevirtual 92, 3) := by decide +kernel
theorem d9_readEdges_95 : decode y9_readEdges.2.1 95 = .ok (.ifCond .eq 27, 3) := by decide +kernel
theorem d9_readEdges_98 : decode y9_readEdges.2.1 98 = .ok (.aload_n 0, 1) := by decide +kernel
theorem d9_readEdges_99 : decode y9_readEdges.2.1 99 = .ok (.iload_n 1, 1) := by decide +kernel
theorem d9_readEdges_100 : decode y9_readEdges.2.1 100 = .ok (.iload_n 3, 1) := by decide +kernel
theorem d9_readEdges_101 : decode y9_readEdges.2.1 101 = .ok (.aload_n 0, 1) := by decide +kernel
theorem d9_readEdges_102 : decode y9_readEdges.2.1 102 = .ok (.getfield 86, 3) := by decide +kernel
theorem d9_readEdges_105 : decode y9_readEdges.2.1 105 = .ok (.aload_n 0, 1) := by decide +kernel
theorem d9_readEdges_106 : decode y9_readEdges.2.1 106 = .ok (.getfield 86, 3) := by decide +kernel
theorem d9_readEdges_109 : decode y9_readEdges.2.1 109 = .ok (.ldc2_w 131, 3) := by decide +kernel
theorem d9_readEdges_112 : decode y9_readEdges.2.1 112 = .ok (.invokevirtual 113, 3) := by decide +kernel
theorem d9_readEdges_115 : decode y9_readEdges.2.1 115 = .ok (.ifCond .eq 7, 3) := by decide +kernel
theorem d9_readEdges_118 : decode y9_readEdges.2.1 118 = .ok (.iconst 1, 1) := by decide +kernel
theorem d9_readEdges_119 : decode y9_readEdges.2.1 119 = .ok (.goto 4, 3) := by decide +kernel
theorem d9_readEdges_122 : decode y9_readEdges.2.1 122 = .ok (.iconst 0, 1) := by decide +kernel
theorem d9_readEdges_123 : decode y9_readEdges.2.1 123 = .ok (.istore 5, 2) := by decide +kernel
theorem d9_readEdges_125 : decode y9_readEdges.2.1 125 = .ok (.iload 5, 2) := by decide +kernel
theorem d9_readEdges_127 : decode y9_readEdges.2.1 127 = .ok (.ifCond .ne 5, 3) := by decide +kernel
theorem d9_readEdges_130 : decode y9_readEdges.2.1 130 = .ok (.iconst 0, 1) := by decide +kernel
theorem d9_readEdges_131 : decode y9_readEdges.2.1 131 = .ok (.ireturn, 1) := by decide +kernel
theorem d9_readEdges_132 : decode y9_readEdges.2.1 132 = .ok (.iinc 3 1, 3) := by decide +kernel
theorem d9_readEdges_135 : decode y9_readEdges.2.1 135 = .ok (.goto (-123), 3) := by decide +kernel
theorem d9_readEdges_138 : decode y9_readEdges.2.1 138 = .ok (.iconst 1, 1) := by decide +kernel
theorem d9_readEdges_139 : decode y9_readEdges.2.1 139 = .ok (.ireturn, 1) := by decide +kernel
theorem d0_place_0 : decode y0_place.2.1 0 = .ok (.aload_n 0, 1) := by decide +kernel
theorem d0_place_1 : decode y0_place.2.1 1 = .ok (.getfield 62, 3) := by decide +kernel
theorem d0_place_4 : decode y0_place.2.1 4 = .ok (.ireturn, 1) := by decide +kernel
theorem d0_receive_0 : decode y0_receive.2.1 0 = .ok (.iload_n 3, 1) := by decide +kernel
theorem d0_receive_1 : decode y0_receive.2.1 1 = .ok (.iconst 1, 1) := by decide +kernel
theorem d0_receive_2 : decode y0_receive.2.1 2 = .ok (.if_icmp .lt 9, 3) := by decide +kernel
theorem d0_receive_5 : decode y0_receive.2.1 5 = .ok (.iload_n 3, 1) := by decide +kernel
theorem d0_receive_6 : decode y0_receive.2.1 6 = .ok (.bipush 8, 2) := by decide +kernel
theorem d0_receive_8 : decode y0_receive.2.1 8 = .ok (.if_icmp .le 5, 3) := by decide +kernel
theorem d0_receive_11 : decode y0_receive.2.1 11 = .ok (.iconst (-1), 1) := by decide +kernel
theorem d0_receive_12 : decode y0_receive.2.1 12 = .ok (.ireturn, 1) := by decide +kernel
theorem d0_receive_13 : decode y0_receive.2.1 13 = .ok (.aload_n 0, 1) := by decide +kernel
theorem d0_receive_14 : decode y0_receive.2.1 14 = .ok (.getfield 37, 3) := by decide +kernel
theorem d0_receive_17 : decode y0_receive.2.1 17 = .ok (.lload_n 1, 1) := by decide +kernel
theorem d0_receive_18 : decode y0_receive.2.1 18 = .ok (.iload_n 3, 1) := by decide +kernel
theorem d0_receive_19 : decode y0_receive.2.1 19 = .ok (.invokevirtual 104, 3) := by decide +kernel
theorem d0_receive_22 : decode y0_receive.2.1 22 = .ok (.ifCond .eq 13, 3) := by decide +kernel
theorem d0_receive_25 : decode y0_receive.2.1 25 = .ok (.aload_n 0, 1) := by decide +kernel
theorem d0_receive_26 : decode y0_receive.2.1 26 = .ok (.getfield 37, 3) := by decide +kernel
theorem d0_receive_29 : decode y0_receive.2.1 29 = .ok (.getfield 107, 3) := by decide +kernel
theorem d0_receive_32 : decode y0_receive.2.1 32 = .ok (.goto 5, 3) := by decide +kernel
theorem d0_receive_35 : decode y0_receive.2.1 35 = .ok (.bipush (-3), 2) := by decide +kernel
theorem d0_receive_37 : decode y0_receive.2.1 37 = .ok (.ireturn, 1) := by decide +kernel
theorem d4_append_0 : decode y4_append.2.1 0 = .ok (.aload_n 0, 1) := by decide +kernel
theorem d4_append_1 : decode y4_append.2.1 1 = .ok (.getfield 15, 3) := by decide +kernel
theorem d4_append_4 : decode y4_append.2.1 4 = .ok (.iload_n 3, 1) := by decide +kernel
theorem d4_append_5 : decode y4_append.2.1 5 = .ok (.iadd, 1) := by decide +kernel
theorem d4_append_6 : decode y4_append.2.1 6 = .ok (.sipush 1024, 3) := by decide +kernel
theorem d4_append_9 : decode y4_append.2.1 9 = .ok (.if_icmp .le 5, 3) := by decide +kernel
theorem d4_append_12 : decode y4_append.2.1 12 = .ok (.iconst 0, 1) := by decide +kernel
theorem d4_append_13 : decode y4_append.2.1 13 = .ok (.ireturn, 1) := by decide +kernel
theorem d4_append_14 : decode y4_append.2.1 14 = .ok (.iload_n 3, 1) := by decide +kernel
theorem d4_append_15 : decode y4_append.2.1 15 = .ok (.iconst 1, 1) := by decide +kernel
theorem d4_append_16 : decode y4_append.2.1 16 = .ok (.isub, 1) := by decide +kernel
theorem d4_append_17 : decode y4_append.2.1 17 = .ok (.istore 4, 2) := by decide +kernel
theorem d4_append_19 : decode y4_append.2.1 19 = .ok (.iload 4, 2) := by decide +kernel
theorem d4_append_21 : decode y4_append.2.1 21 = .ok (.ifCond .lt 37, 3) := by decide +kernel
theorem d4_append_24 : decode y4_append.2.1 24 = .ok (.aload_n 0, 1) := by decide +kernel
theorem d4_append_25 : decode y4_append.2.1 25 = .ok (.getfield 9, 3) := by decide +kernel
theorem d4_append_28 : decode y4_append.2.1 28 = .ok (.aload_n 0, 1) := by decide +kernel
theorem d4_append_29 : decode y4_append.2.1 29 = .ok (.getfield 15, 3) := by decide +kernel
theorem d4_append_32 : decode y4_append.2.1 32 = .ok (.lload_n 1, 1) := by decide +kernel
theorem d4_append_33 : decode y4_append.2.1 33 = .ok (.bipush 8, 2) := by decide +kernel
theorem d4_append_35 : decode y4_append.2.1 35 = .ok (.iload 4, 2) := by decide +kernel
theorem d4_append_37 : decode y4_append.2.1 37 = .ok (.imul, 1) := by decide +kernel
theorem d4_append_38 : decode y4_append.2.1 38 = .ok (.lushr, 1) := by decide +kernel
theorem d4_append_39 : decode y4_append.2.1 39 = .ok (.l2i, 1) := by decide +kernel
theorem d4_append_40 : decode y4_append.2.1 40 = .ok (.i2b, 1) := by decide +kernel
theorem d4_append_41 : decode y4_append.2.1 41 = .ok (.bastore, 1) := by decide +kernel
theorem d4_append_42 : decode y4_append.2.1 42 = .ok (.aload_n 0, 1) := by decide +kernel
theorem d4_append_43 : decode y4_append.2.1 43 = .ok (.dup, 1) := by decide +kernel
theorem d4_append_44 : decode y4_append.2.1 44 = .ok (.getfield 15, 3) := by decide +kernel
theorem d4_append_47 : decode y4_append.2.1 47 = .ok (.iconst 1, 1) := by decide +kernel
theorem d4_append_48 : decode y4_append.2.1 48 = .ok (.iadd, 1) := by decide +kernel
theorem d4_append_49 : decode y4_append.2.1 49 = .ok (.putfield 15, 3) := by decide +kernel
theorem d4_append_52 : decode y4_append.2.1 52 = .ok (.iinc 4 (-1), 3) := by decide +kernel
theorem d4_append_55 : decode y4_append.2.1 55 = .ok (.goto (-36), 3) := by decide +kernel
theorem d4_append_58 : decode y4_append.2.1 58 = .ok (.iconst 1, 1) := by decide +kernel
theorem d4_append_59 : decode y4_append.2.1 59 = .ok (.ireturn, 1) := by decide +kernel
theorem d0_drop_0 : decode y0_drop.2.1 0 = .ok (.aload_n 0, 1) := by decide +kernel
theorem d0_drop_1 : decode y0_drop.2.1 1 = .ok (.getfield 37, 3) := by decide +kernel
theorem d0_drop_4 : decode y0_drop.2.1 4 = .ok (.getfield 107, 3) := by decide +kernel
theorem d0_drop_7 : decode y0_drop.2.1 7 = .ok (.istore_n 1, 1) := by decide +kernel
theorem d0_drop_8 : decode y0_drop.2.1 8 = .ok (.aload_n 0, 1) := by decide +kernel
theorem d0_drop_9 : decode y0_drop.2.1 9 = .ok (.getfield 37, 3) := by decide +kernel
theorem d0_drop_12 : decode y0_drop.2.1 12 = .ok (.iconst 0, 1) := by decide +kernel
theorem d0_drop_13 : decode y0_drop.2.1 13 = .ok (.putfield 107, 3) := by decide +kernel
theorem d0_drop_16 : decode y0_drop.2.1 16 = .ok (.iload_n 1, 1) := by decide +kernel
theorem d0_drop_17 : decode y0_drop.2.1 17 = .ok (.ireturn, 1) := by decide +kernel
theorem d0_run_0 : decode y0_run.2.1 0 = .ok (.aload_n 0, 1) := by decide +kernel
theorem d0_run_1 : decode y0_run.2.1 1 = .ok (.getfield 23, 3) := by decide +kernel
theorem d0_run_4 : decode y0_run.2.1 4 = .ok (.invokevirtual 77, 3) := by decide +kernel
theorem d0_run_7 : decode y0_run.2.1 7 = .ok (.bipush (-2), 2) := by decide +kernel
theorem d0_run_9 : decode y0_run.2.1 9 = .ok (.if_icmp .ne 20, 3) := by decide +kernel
theorem d0_run_12 : decode y0_run.2.1 12 = .ok (.aload_n 0, 1) := by decide +kernel
theorem d0_run_13 : decode y0_run.2.1 13 = .ok (.getfield 37, 3) := by decide +kernel
theorem d0_run_16 : decode y0_run.2.1 16 = .ok (.getfield 107, 3) := by decide +kernel
theorem d0_run_19 : decode y0_run.2.1 19 = .ok (.aload_n 0, 1) := by decide +kernel
theorem d0_run_20 : decode y0_run.2.1 20 = .ok (.getfield 23, 3) := by decide +kernel
theorem d0_run_23 : decode y0_run.2.1 23 = .ok (.getfield 108, 3) := by decide +kernel
theorem d0_run_26 : decode y0_run.2.1 26 = .ok (.if_icmp .ge 5, 3) := by decide +kernel
theorem d0_run_29 : decode y0_run.2.1 29 = .ok (.iconst (-1), 1) := by decide +kernel
theorem d0_run_30 : decode y0_run.2.1 30 = .ok (.ireturn, 1) := by decide +kernel
theorem d0_run_31 : decode y0_run.2.1 31 = .ok (.aload_n 0, 1) := by decide +kernel
theorem d0_run_32 : decode y0_run.2.1 32 = .ok (.getfield 58, 3) := by decide +kernel
theorem d0_run_35 : decode y0_run.2.1 35 = .ok (.aload_n 0, 1) := by decide +kernel
theorem d0_run_36 : decode y0_run.2.1 36 = .ok (.getfield 23, 3) := by decide +kernel
theorem d0_run_39 : decode y0_run.2.1 39 = .ok (.aload_n 0, 1) := by decide +kernel
theorem d0_run_40 : decode y0_run.2.1 40 = .ok (.getfield 37, 3) := by decide +kernel
theorem d0_run_43 : decode y0_run.2.1 43 = .ok (.invokevirtual 111, 3) := by decide +kernel
theorem d0_run_46 : decode y0_run.2.1 46 = .ok (.ireturn, 1) := by decide +kernel
theorem d10_execute_0 : decode y10_execute.2.1 0 = .ok (.aload_n 0, 1) := by decide +kernel
theorem d10_execute_1 : decode y10_execute.2.1 1 = .ok (.getfield 9, 3) := by decide +kernel
theorem d10_execute_4 : decode y10_execute.2.1 4 = .ok (.iconst 0, 1) := by decide +kernel
theorem d10_execute_5 : decode y10_execute.2.1 5 = .ok (.invokestatic 19, 3) := by decide +kernel
theorem d10_execute_8 : decode y10_execute.2.1 8 = .ok (.aload_n 0, 1) := by decide +kernel
theorem d10_execute_9 : decode y10_execute.2.1 9 = .ok (.getfield 15, 3) := by decide +kernel
theorem d10_execute_12 : decode y10_execute.2.1 12 = .ok (.iconst 0, 1) := by decide +kernel
theorem d10_execute_13 : decode y10_execute.2.1 13 = .ok (.invokestatic 25, 3) := by decide +kernel
theorem d10_execute_16 : decode y10_execute.2.1 16 = .ok (.aload_n 0, 1) := by decide +kernel
theorem d10_execute_17 : decode y10_execute.2.1 17 = .ok (.getfield 9, 3) := by decide +kernel
theorem d10_execute_20 : decode y10_execute.2.1 20 = .ok (.iconst 1, 1) := by decide +kernel
theorem d10_execute_21 : decode y10_execute.2.1 21 = .ok (.aload_n 2, 1) := by decide +kernel
theorem d10_execute_22 : decode y10_execute.2.1 22 = .ok (.getfield 28, 3) := by decide +kernel
theorem d10_execute_25 : decode y10_execute.2.1 25 = .ok (.iastore, 1) := by decide +kernel
theorem d10_execute_26 : decode y10_execute.2.1 26 = .ok (.aload_n 0, 1) := by decide +kernel
theorem d10_execute_27 : decode y10_execute.2.1 27 = .ok (.iconst 0, 1) := by decide +kernel
theorem d10_execute_28 : decode y10_execute.2.1 28 = .ok (.putfield 34, 3) := by decide +kernel
theorem d10_execute_31 : decode y10_execute.2.1 31 = .ok (.aload_n 0, 1) := by decide +kernel
theorem d10_execute_32 : decode y10_execute.2.1 32 = .ok (.iconst 0, 1) := by decide +kernel
theorem d10_execute_33 : decode y10_execute.2.1 33 = .ok (.putfield 37, 3) := by decide +kernel
theorem d10_execute_36 : decode y10_execute.2.1 36 = .ok (.iconst 0, 1) := by decide +kernel
theorem d10_execute_37 : decode y10_execute.2.1 37 = .ok (.istore_n 3, 1) := by decide +kernel
theorem d10_execute_38 : decode y10_execute.2.1 38 = .ok (.aload_n 0, 1) := by decide +kernel
theorem d10_execute_39 : decode y10_execute.2.1 39 = .ok (.getfield 37, 3) := by decide +kernel
theorem d10_execute_42 : decode y10_execute.2.1 42 = .ok (.aload_n 1, 1) := by decide +kernel
theorem d10_execute_43 : decode y10_execute.2.1 43 = .ok (.getfield 40, 3) := by decide +kernel
theorem d10_execute_46 : decode y10_execute.2.1 46 = .ok (.if_icmp .ge 94, 3) := by decide +kernel
theorem d10_execute_49 : decode y10_execute.2.1 49 = .ok (.iload_n 3, 1) := by decide +kernel
theorem d10_execute_50 : decode y10_execute.2.1 50 = .ok (.aload_n 1, 1) := by decide +kernel
theorem d10_execute_51 : decode y10_execute.2.1 51 = .ok (.getfield 40, 3) := by decide +kernel
theorem d10_execute_54 : decode y10_execute.2.1 54 = .ok (.if_icmp .ge 86, 3) := by decide +kernel
theorem d10_execute_57 : decode y10_execute.2.1 57 = .ok (.aload_n 1, 1) := by decide +kernel
theorem d10_execute_58 : decode y10_execute.2.1 58 = .ok (.getfield 45, 3) := by decide +kernel
theorem d10_execute_61 : decode y10_execute.2.1 61 = .ok (.iload_n 3, 1) := by decide +kernel
theorem d10_execute_62 : decode y10_execute.2.1 62 = .ok (.aaload, 1) := by decide +kernel
theorem d10_execute_63 : decode y10_execute.2.1 63 = .ok (.astore 4, 2) := by decide +kernel
theorem d10_execute_65 : decode y10_execute.2.1 65 = .ok (.aload_n 0, 1) := by decide +kernel
theorem d10_execute_66 : decode y10_execute.2.1 66 = .ok (.dup, 1) := by decide +kernel
theorem d10_execute_67 : decode y10_execute.2.1 67 = .ok (.getfield 37, 3) := by decide +kernel
theorem d10_execute_70 : decode y10_execute.2.1 70 = .ok (.iconst 1, 1) := by decide +kernel
theorem d10_execute_71 : decode y10_execute.2.1 71 = .ok (.iadd, 1) := by decide +kernel
theorem d10_execute_72 : decode y10_execute.2.1 72 = .ok (.putfield 37, 3) := by decide +kernel
theorem d10_execute_75 : decode y10_execute.2.1 75 = .ok (.aload 4, 2) := by decide +kernel
theorem d10_execute_77 : decode y10_execute.2.1 77 = .ok (.getfield 49, 3) := by decide +kernel
theorem d10_execute_80 : decode y10_execute.2.1 80 = .ok (.ifCond .ne 19, 3) := by decide +kernel
theorem d10_execute_83 : decode y10_execute.2.1 83 = .ok (.aload_n 0, 1) := by decide +kernel
theorem d10_execute_84 : decode y10_execute.2.1 84 = .ok (.aload_n 0, 1) := by decide +kernel
theorem d10_execute_85 : decode y10_execute.2.1 85 = .ok (.getfield 9, 3) := by decide +kernel
theorem d10_execute_88 : decode y10_execute.2.1 88 = .ok (.aload 4, 2) := by decide +kernel
theorem d10_execute_90 : decode y10_execute.2.1 90 = .ok (.getfield 54, 3) := by decide +kernel
theorem d10_execute_93 : decode y10_execute.2.1 93 = .ok (.iaload, 1) := by decide +kernel
theorem d10_execute_94 : decode y10_execute.2.1 94 = .ok (.putfield 34, 3) := by decide +kernel
theorem d10_execute_97 : decode y10_execute.2.1 97 = .ok (.iconst 0, 1) := by decide +kernel
theorem d10_execute_98 : decode y10_execute.2.1 98 = .ok (.ireturn, 1) := by decide +kernel
theorem d10_execute_99 : decode y10_execute.2.1 99 = .ok (.aload_n 0, 1) := by decide +kernel
theorem d10_execute_100 : decode y10_execute.2.1 100 = .ok (.aload 4, 2) := by decide +kernel
theorem d10_execute_102 : decode y10_execute.2.1 102 = .ok (.aload_n 2, 1) := by decide +kernel
theorem d10_execute_103 : decode y10_execute.2.1 103 = .ok (.invokevirtual 57, 3) := by decide +kernel
theorem d10_execute_106 : decode y10_execute.2.1 106 = .ok (.istore 5, 2) := by decide +kernel
theorem d10_execute_108 : decode y10_execute.2.1 108 = .ok (.iload 5, 2) := by decide +kernel
theorem d10_execute_110 : decode y10_execute.2.1 110 = .ok (.ifCond .eq 6, 3) := by decide +kernel
theorem d10_execute_113 : decode y10_execute.2.1 113 = .ok (.iload 5, 2) := by decide +kernel
theorem d10_execute_115 : decode y10_execute.2.1 115 = .ok (.ireturn, 1) := by decide +kernel
theorem d10_execute_116 : decode y10_execute.2.1 116 = .ok (.aload_n 0, 1) := by decide +kernel
theorem d10_execute_117 : decode y10_execute.2.1 117 = .ok (.aload 4, 2) := by decide +kernel
theorem d10_execute_119 : decode y10_execute.2.1 119 = .ok (.invokevirtual 61, 3) := by decide +kernel
theorem d10_execute_122 : decode y10_execute.2.1 122 = .ok (.ifCond .eq 11, 3) := by decide +kernel
theorem d10_execute_125 : decode y10_execute.2.1 125 = .ok (.aload 4, 2) := by decide +kernel
theorem d10_execute_127 : decode y10_execute.2.1 127 = .ok (.getfield 65, 3) := by decide +kernel
theorem d10_execute_130 : decode y10_execute.2.1 130 = .ok (.goto 6, 3) := by decide +kernel
theorem d10_execute_133 : decode y10_execute.2.1 133 = .ok (.iload_n 3, 1) := by decide +kernel
theorem d10_execute_134 : decode y10_execute.2.1 134 = .ok (.iconst 1, 1) := by decide +kernel
theorem d10_execute_135 : decode y10_execute.2.1 135 = .ok (.iadd, 1) := by decide +kernel
theorem d10_execute_136 : decode y10_execute.2.1 136 = .ok (.istore_n 3, 1) := by decide +kernel
theorem d10_execute_137 : decode y10_execute.2.1 137 = .ok (.goto (-99), 3) := by decide +kernel
theorem d10_execute_140 : decode y10_execute.2.1 140 = .ok (.iconst 0, 1) := by decide +kernel
theorem d10_execute_141 : decode y10_execute.2.1 141 = .ok (.ireturn, 1) := by decide +kernel
theorem dr_fill_I_0 : decode yr_fill_I.2.1 0 = .ok (.iconst 0, 1) := by decide +kernel
theorem dr_fill_I_1 : decode yr_fill_I.2.1 1 = .ok (.istore_n 2, 1) := by decide +kernel
theorem dr_fill_I_2 : decode yr_fill_I.2.1 2 = .ok (.aload_n 0, 1) := by decide +kernel
theorem dr_fill_I_3 : decode yr_fill_I.2.1 3 = .ok (.arraylength, 1) := by decide +kernel
theorem dr_fill_I_4 : decode yr_fill_I.2.1 4 = .ok (.istore_n 3, 1) := by decide +kernel
theorem dr_fill_I_5 : decode yr_fill_I.2.1 5 = .ok (.iload_n 2, 1) := by decide +kernel
theorem dr_fill_I_6 : decode yr_fill_I.2.1 6 = .ok (.iload_n 3, 1) := by decide +kernel
theorem dr_fill_I_7 : decode yr_fill_I.2.1 7 = .ok (.if_icmp .ge 13, 3) := by decide +kernel
theorem dr_fill_I_10 : decode yr_fill_I.2.1 10 = .ok (.aload_n 0, 1) := by decide +kernel
theorem dr_fill_I_11 : decode yr_fill_I.2.1 11 = .ok (.iload_n 2, 1) := by decide +kernel
theorem dr_fill_I_12 : decode yr_fill_I.2.1 12 = .ok (.iload_n 1, 1) := by decide +kernel
theorem dr_fill_I_13 : decode yr_fill_I.2.1 13 = .ok (.iastore, 1) := by decide +kernel
theorem dr_fill_I_14 : decode yr_fill_I.2.1 14 = .ok (.iinc 2 1, 3) := by decide +kernel
theorem dr_fill_I_17 : decode yr_fill_I.2.1 17 = .ok (.goto (-12), 3) := by decide +kernel
theorem dr_fill_I_20 : decode yr_fill_I.2.1 20 = .ok (.return_, 1) := by decide +kernel
theorem dr_fill_B_0 : decode yr_fill_B.2.1 0 = .ok (.iconst 0, 1) := by decide +kernel
theorem dr_fill_B_1 : decode yr_fill_B.2.1 1 = .ok (.istore_n 2, 1) := by decide +kernel
theorem dr_fill_B_2 : decode yr_fill_B.2.1 2 = .ok (.aload_n 0, 1) := by decide +kernel
theorem dr_fill_B_3 : decode yr_fill_B.2.1 3 = .ok (.arraylength, 1) := by decide +kernel
theorem dr_fill_B_4 : decode yr_fill_B.2.1 4 = .ok (.istore_n 3, 1) := by decide +kernel
theorem dr_fill_B_5 : decode yr_fill_B.2.1 5 = .ok (.iload_n 2, 1) := by decide +kernel
theorem dr_fill_B_6 : decode yr_fill_B.2.1 6 = .ok (.iload_n 3, 1) := by decide +kernel
theorem dr_fill_B_7 : decode yr_fill_B.2.1 7 = .ok (.if_icmp .ge 13, 3) := by decide +kernel
theorem dr_fill_B_10 : decode yr_fill_B.2.1 10 = .ok (.aload_n 0, 1) := by decide +kernel
theorem dr_fill_B_11 : decode yr_fill_B.2.1 11 = .ok (.iload_n 2, 1) := by decide +kernel
theorem dr_fill_B_12 : decode yr_fill_B.2.1 12 = .ok (.iload_n 1, 1) := by decide +kernel
theorem dr_fill_B_13 : decode yr_fill_B.2.1 13 = .ok (.bastore, 1) := by decide +kernel
theorem dr_fill_B_14 : decode yr_fill_B.2.1 14 = .ok (.iinc 2 1, 3) := by decide +kernel
theorem dr_fill_B_17 : decode yr_fill_B.2.1 17 = .ok (.goto (-12), 3) := by decide +kernel
theorem dr_fill_B_20 : decode yr_fill_B.2.1 20 = .ok (.return_, 1) := by decide +kernel
theorem d10_perform_0 : decode y10_perform.2.1 0 = .ok (.aload_n 1, 1) := by decide +kernel
theorem d10_perform_1 : decode y10_perform.2.1 1 = .ok (.getfield 54, 3) := by decide +kernel
theorem d10_perform_4 : decode y10_perform.2.1 4 = .ok (.istore_n 3, 1) := by decide +kernel
theorem d10_perform_5 : decode y10_perform.2.1 5 = .ok (.aload_n 1, 1) := by decide +kernel
theorem d10_perform_6 : decode y10_perform.2.1 6 = .ok (.getfield 49, 3) := by decide +kernel
theorem d10_perform_9 : decode y10_perform.2.1 9 = .ok (.tableswitch 169 1 7 #[43, 55, 72, 91, 115, 139, 154], 43) := by decide +kernel
theorem d10_perform_52 : decode y10_perform.2.1 52 = .ok (.aload_n 0, 1) := by decide +kernel
theorem d10_perform_53 : decode y10_perform.2.1 53 = .ok (.getfield 9, 3) := by decide +kernel
theorem d10_perform_56 : decode y10_perform.2.1 56 = .ok (.iload_n 3, 1) := by decide +kernel
theorem d10_perform_57 : decode y10_perform.2.1 57 = .ok (.aload_n 1, 1) := by decide +kernel
theorem d10_perform_58 : decode y10_perform.2.1 58 = .ok (.getfield 68, 3) := by decide +kernel
theorem d10_perform_61 : decode y10_perform.2.1 61 = .ok (.iastore, 1) := by decide +kernel
theorem d10_perform_62 : decode y10_perform.2.1 62 = .ok (.iconst 0, 1) := by decide +kernel
theorem d10_perform_63 : decode y10_perform.2.1 63 = .ok (.ireturn, 1) := by decide +kernel
theorem d10_perform_64 : decode y10_perform.2.1 64 = .ok (.aload_n 0, 1) := by decide +kernel
theorem d10_perform_65 : decode y10_perform.2.1 65 = .ok (.getfield 9, 3) := by decide +kernel
theorem d10_perform_68 : decode y10_perform.2.1 68 = .ok (.iload_n 3, 1) := by decide +kernel
theorem d10_perform_69 : decode y10_perform.2.1 69 = .ok (.aload_n 0, 1) := by decide +kernel
theorem d10_perform_70 : decode y10_perform.2.1 70 = .ok (.getfield 9, 3) := by decide +kernel
theorem d10_perform_73 : decode y10_perform.2.1 73 = .ok (.aload_n 1, 1) := by decide +kernel
theorem d10_perform_74 : decode y10_perform.2.1 74 = .ok (.getfield 71, 3) := by decide +kernel
theorem d10_perform_77 : decode y10_perform.2.1 77 = .ok (.iaload, 1) := by decide +kernel
theorem d10_perform_78 : decode y10_perform.2.1 78 = .ok (.iastore, 1) := by decide +kernel
theorem d10_perform_79 : decode y10_perform.2.1 79 = .ok (.iconst 0, 1) := by decide +kernel
theorem d10_perform_80 : decode y10_perform.2.1 80 = .ok (.ireturn, 1) := by decide +kernel
theorem d10_perform_81 : decode y10_perform.2.1 81 = .ok (.aload_n 0, 1) := by decide +kernel
theorem d10_perform_82 : decode y10_perform.2.1 82 = .ok (.iload_n 3, 1) := by decide +kernel
theorem d10_perform_83 : decode y10_perform.2.1 83 = .ok (.aload_n 0, 1) := by decide +kernel
theorem d10_perform_84 : decode y10_perform.2.1 84 = .ok (.getfield 9, 3) := by decide +kernel
theorem d10_perform_87 : decode y10_perform.2.1 87 = .ok (.iload_n 3, 1) := by decide +kernel
theorem d10_perform_88 : decode y10_perform.2.1 88 = .ok (.iaload, 1) := by decide +kernel
theorem d10_perform_89 : decode y10_perform.2.1 89 = .ok (.i2l, 1) := by decide +kernel
theorem d10_perform_90 : decode y10_perform.2.1 90 = .ok (.aload_n 1, 1) := by decide +kernel
theorem d10_perform_91 : decode y10_perform.2.1 91 = .ok (.getfield 68, 3) := by decide +kernel
theorem d10_perform_94 : decode y10_perform.2.1 94 = .ok (.i2l, 1) := by decide +kernel
theorem d10_perform_95 : decode y10_perform.2.1 95 = .ok (.ladd, 1) := by decide +kernel
theorem d10_perform_96 : decode y10_perform.2.1 96 = .ok (.invokevirtual 74, 3) := by decide +kernel
theorem d10_perform_99 : decode y10_perform.2.1 99 = .ok (.ireturn, 1) := by decide +kernel
theorem d10_perform_100 : decode y10_perform.2.1 100 = .ok (.aload_n 0, 1) := by decide +kernel
theorem d10_perform_101 : decode y10_perform.2.1 101 = .ok (.iload_n 3, 1) := by decide +kernel
theorem d10_perform_102 : decode y10_perform.2.1 102 = .ok (.aload_n 0, 1) := by decide +kernel
theorem d10_perform_103 : decode y10_perform.2.1 103 = .ok (.getfield 9, 3) := by decide +kernel
theorem d10_perform_106 : decode y10_perform.2.1 106 = .ok (.iload_n 3, 1) := by decide +kernel
theorem d10_perform_107 : decode y10_perform.2.1 107 = .ok (.iaload, 1) := by decide +kernel
theorem d10_perform_108 : decode y10_perform.2.1 108 = .ok (.i2l, 1) := by decide +kernel
theorem d10_perform_109 : decode y10_perform.2.1 109 = .ok (.aload_n 0, 1) := by decide +kernel
theorem d10_perform_110 : decode y10_perform.2.1 110 = .ok (.getfield 9, 3) := by decide +kernel
theorem d10_perform_113 : decode y10_perform.2.1 113 = .ok (.aload_n 1, 1) := by decide +kernel
theorem d10_perform_114 : decode y10_perform.2.1 114 = .ok (.getfield 71, 3) := by decide +kernel
theorem d10_perform_117 : decode y10_perform.2.1 117 = .ok (.iaload, 1) := by decide +kernel
theorem d10_perform_118 : decode y10_perform.2.1 118 = .ok (.i2l, 1) := by decide +kernel
theorem d10_perform_119 : decode y10_perform.2.1 119 = .ok (.ladd, 1) := by decide +kernel
theorem d10_perform_120 : decode y10_perform.2.1 120 = .ok (.invokevirtual 74, 3) := by decide +kernel
theorem d10_perform_123 : decode y10_perform.2.1 123 = .ok (.ireturn, 1) := by decide +kernel
theorem d10_perform_124 : decode y10_perform.2.1 124 = .ok (.aload_n 0, 1) := by decide +kernel
theorem d10_perform_125 : decode y10_perform.2.1 125 = .ok (.iload_n 3, 1) := by decide +kernel
theorem d10_perform_126 : decode y10_perform.2.1 126 = .ok (.aload_n 0, 1) := by decide +kernel
theorem d10_perform_127 : decode y10_perform.2.1 127 = .ok (.getfield 9, 3) := by decide +kernel
theorem d10_perform_130 : decode y10_perform.2.1 130 = .ok (.iload_n 3, 1) := by decide +kernel
theorem d10_perform_131 : decode y10_perform.2.1 131 = .ok (.iaload, 1) := by decide +kernel
theorem d10_perform_132 : decode y10_perform.2.1 132 = .ok (.i2l, 1) := by decide +kernel
theorem d10_perform_133 : decode y10_perform.2.1 133 = .ok (.aload_n 0, 1) := by decide +kernel
theorem d10_perform_134 : decode y10_perform.2.1 134 = .ok (.getfield 9, 3) := by decide +kernel
theorem d10_perform_137 : decode y10_perform.2.1 137 = .ok (.aload_n 1, 1) := by decide +kernel
theorem d10_perform_138 : decode y10_perform.2.1 138 = .ok (.getfield 71, 3) := by decide +kernel
theorem d10_perform_141 : decode y10_perform.2.1 141 = .ok (.iaload, 1) := by decide +kernel
theorem d10_perform_142 : decode y10_perform.2.1 142 = .ok (.i2l, 1) := by decide +kernel
theorem d10_perform_143 : decode y10_perform.2.1 143 = .ok (.lsub, 1) := by decide +kernel
theorem d10_perform_144 : decode y10_perform.2.1 144 = .ok (.invokevirtual 74, 3) := by decide +kernel
theorem d10_perform_147 : decode y10_perform.2.1 147 = .ok (.ireturn, 1) := by decide +kernel
theorem d10_perform_148 : decode y10_perform.2.1 148 = .ok (.aload_n 0, 1) := by decide +kernel
theorem d10_perform_149 : decode y10_perform.2.1 149 = .ok (.getfield 9, 3) := by decide +kernel
theorem d10_perform_152 : decode y10_perform.2.1 152 = .ok (.iload_n 3, 1) := by decide +kernel
theorem d10_perform_153 : decode y10_perform.2.1 153 = .ok (.dup2, 1) := by decide +kernel
theorem d10_perform_154 : decode y10_perform.2.1 154 = .ok (.iaload, 1) := by decide +kernel
theorem d10_perform_155 : decode y10_perform.2.1 155 = .ok (.aload_n 1, 1) := by decide +kernel
theorem d10_perform_156 : decode y10_perform.2.1 156 = .ok (.getfield 68, 3) := by decide +kernel
theorem d10_perform_159 : decode y10_perform.2.1 159 = .ok (.iand, 1) := by decide +kernel
theorem d10_perform_160 : decode y10_perform.2.1 160 = .ok (.iastore, 1) := by decide +kernel
theorem d10_perform_161 : decode y10_perform.2.1 161 = .ok (.iconst 0, 1) := by decide +kernel
theorem d10_perform_162 : decode y10_perform.2.1 162 = .ok (.ireturn, 1) := by decide +kernel
theorem d10_perform_163 : decode y10_perform.2.1 163 = .ok (.aload_n 0, 1) := by decide +kernel
theorem d10_perform_164 : decode y10_perform.2.1 164 = .ok (.getfield 9, 3) := by decide +kernel
theorem d10_perform_167 : decode y10_perform.2.1 167 = .ok (.iload_n 3, 1) := by decide +kernel
theorem d10_perform_168 : decode y10_perform.2.1 168 = .ok (.dup2, 1) := by decide +kernel
theorem d10_perform_169 : decode y10_perform.2.1 169 = .ok (.iaload, 1) := by decide +kernel
theorem d10_perform_170 : decode y10_perform.2.1 170 = .ok (.aload_n 1, 1) := by decide +kernel
theorem d10_perform_171 : decode y10_perform.2.1 171 = .ok (.getfield 68, 3) := by decide +kernel
theorem d10_perform_174 : decode y10_perform.2.1 174 = .ok (.iushr, 1) := by decide +kernel
theorem d10_perform_175 : decode y10_perform.2.1 175 = .ok (.iastore, 1) := by decide +kernel
theorem d10_perform_176 : decode y10_perform.2.1 176 = .ok (.iconst 0, 1) := by decide +kernel
theorem d10_perform_177 : decode y10_perform.2.1 177 = .ok (.ireturn, 1) := by decide +kernel
theorem d10_perform_178 : decode y10_perform.2.1 178 = .ok (.aload_n 1, 1) := by decide +kernel
theorem d10_perform_179 : decode y10_perform.2.1 179 = .ok (.invokevirtual 78, 3) := by decide +kernel
theorem d10_perform_182 : decode y10_perform.2.1 182 = .ok (.ifCond .eq 12, 3) := by decide +kernel
theorem d10_perform_185 : decode y10_perform.2.1 185 = .ok (.aload_n 0, 1) := by decide +kernel
theorem d10_perform_186 : decode y10_perform.2.1 186 = .ok (.aload_n 1, 1) := by decide +kernel
theorem d10_perform_187 : decode y10_perform.2.1 187 = .ok (.aload_n 2, 1) := by decide +kernel
theorem d10_perform_188 : decode y10_perform.2.1 188 = .ok (.invokevirtual 82, 3) := by decide +kernel
theorem d10_perform_191 : decode y10_perform.2.1 191 = .ok (.goto 4, 3) := by decide +kernel
theorem d10_perform_194 : decode y10_perform.2.1 194 = .ok (.iconst 0, 1) := by decide +kernel
theorem d10_perform_195 : decode y10_perform.2.1 195 = .ok (.ireturn, 1) := by decide +kernel
theorem d10_become_0 : decode y10_become.2.1 0 = .ok (.lload_n 2, 1) := by decide +kernel
theorem d10_become_1 : decode y10_become.2.1 1 = .ok (.lload_n 2, 1) := by decide +kernel
theorem d10_become_2 : decode y10_become.2.1 2 = .ok (.l2i, 1) := by decide +kernel
theorem d10_become_3 : decode y10_become.2.1 3 = .ok (.i2l, 1) := by decide +kernel
theorem d10_become_4 : decode y10_become.2.1 4 = .ok (.lcmp, 1) := by decide +kernel
theorem d10_become_5 : decode y10_become.2.1 5 = .ok (.ifCond .eq 5, 3) := by decide +kernel
theorem d10_become_8 : decode y10_become.2.1 8 = .ok (.iconst 3, 1) := by decide +kernel
theorem d10_become_9 : decode y10_become.2.1 9 = .ok (.ireturn, 1) := by decide +kernel
theorem d10_become_10 : decode y10_become.2.1 10 = .ok (.aload_n 0, 1) := by decide +kernel
theorem d10_become_11 : decode y10_become.2.1 11 = .ok (.getfield 9, 3) := by decide +kernel
theorem d10_become_14 : decode y10_become.2.1 14 = .ok (.iload_n 1, 1) := by decide +kernel
theorem d10_become_15 : decode y10_become.2.1 15 = .ok (.lload_n 2, 1) := by decide +kernel
theorem d10_become_16 : decode y10_become.2.1 16 = .ok (.l2i, 1) := by decide +kernel
theorem d10_become_17 : decode y10_become.2.1 17 = .ok (.iastore, 1) := by decide +kernel
theorem d10_become_18 : decode y10_become.2.1 18 = .ok (.iconst 0, 1) := by decide +kernel
theorem d10_become_19 : decode y10_become.2.1 19 = .ok (.ireturn, 1) := by decide +kernel
theorem d10_access_0 : decode y10_access.2.1 0 = .ok (.aload_n 0, 1) := by decide +kernel
theorem d10_access_1 : decode y10_access.2.1 1 = .ok (.getfield 9, 3) := by decide +kernel
theorem d10_access_4 : decode y10_access.2.1 4 = .ok (.aload_n 1, 1) := by decide +kernel
theorem d10_access_5 : decode y10_access.2.1 5 = .ok (.getfield 71, 3) := by decide +kernel
theorem d10_access_8 : decode y10_access.2.1 8 = .ok (.iaload, 1) := by decide +kernel
theorem d10_access_9 : decode y10_access.2.1 9 = .ok (.i2l, 1) := by decide +kernel
theorem d10_access_10 : decode y10_access.2.1 10 = .ok (.aload_n 1, 1) := by decide +kernel
theorem d10_access_11 : decode y10_access.2.1 11 = .ok (.getfield 68, 3) := by decide +kernel
theorem d10_access_14 : decode y10_access.2.1 14 = .ok (.i2l, 1) := by decide +kernel
theorem d10_access_15 : decode y10_access.2.1 15 = .ok (.ladd, 1) := by decide +kernel
theorem d10_access_16 : decode y10_access.2.1 16 = .ok (.lstore_n 3, 1) := by decide +kernel
theorem d10_access_17 : decode y10_access.2.1 17 = .ok (.aload_n 1, 1) := by decide +kernel
theorem d10_access_18 : decode y10_access.2.1 18 = .ok (.invokevirtual 85, 3) := by decide +kernel
theorem d10_access_21 : decode y10_access.2.1 21 = .ok (.ifCond .eq 10, 3) := by decide +kernel
theorem d10_access_24 : decode y10_access.2.1 24 = .ok (.aload_n 0, 1) := by decide +kernel
theorem d10_access_25 : decode y10_access.2.1 25 = .ok (.aload_n 1, 1) := by decide +kernel
theorem d10_access_26 : decode y10_access.2.1 26 = .ok (.lload_n 3, 1) := by decide +kernel
theorem d10_access_27 : decode y10_access.2.1 27 = .ok (.invokevirtual 88, 3) := by decide +kernel
theorem d10_access_30 : decode y10_access.2.1 30 = .ok (.ireturn, 1) := by decide +kernel
theorem d10_access_31 : decode y10_access.2.1 31 = .ok (.aload_n 2, 1) := by decide +kernel
theorem d10_access_32 : decode y10_access.2.1 32 = .ok (.lload_n 3, 1) := by decide +kernel
theorem d10_access_33 : decode y10_access.2.1 33 = .ok (.aload_n 1, 1) := by decide +kernel
theorem d10_access_34 : decode y10_access.2.1 34 = .ok (.invokevirtual 92, 3) := by decide +kernel
theorem d10_access_37 : decode y10_access.2.1 37 = .ok (.invokevirtual 96, 3) := by decide +kernel
theorem d10_access_40 : decode y10_access.2.1 40 = .ok (.ifCond .ne 5, 3) := by decide +kernel
theorem d10_access_43 : decode y10_access.2.1 43 = .ok (.iconst 1, 1) := by decide +kernel
theorem d10_access_44 : decode y10_access.2.1 44 = .ok (.ireturn, 1) := by decide +kernel
theorem d10_access_45 : decode y10_access.2.1 45 = .ok (.aload_n 0, 1) := by decide +kernel
theorem d10_access_46 : decode y10_access.2.1 46 = .ok (.getfield 9, 3) := by decide +kernel
theorem d10_access_49 : decode y10_access.2.1 49 = .ok (.aload_n 1, 1) := by decide +kernel
theorem d10_access_50 : decode y10_access.2.1 50 = .ok (.getfield 54, 3) := by decide +kernel
theorem d10_access_53 : decode y10_access.2.1 53 = .ok (.aload_n 2, 1) := by decide +kernel
theorem d10_access_54 : decode y10_access.2.1 54 = .ok (.lload_n 3, 1) := by decide +kernel
theorem d10_access_55 : decode y10_access.2.1 55 = .ok (.l2i, 1) := by decide +kernel
theorem d10_access_56 : decode y10_access.2.1 56 = .ok (.aload_n 1, 1) := by decide +kernel
theorem d10_access_57 : decode y10_access.2.1 57 = .ok (.invokevirtual 92, 3) := by decide +kernel
theorem d10_access_60 : decode y10_access.2.1 60 = .ok (.invokevirtual 100, 3) := by decide +kernel
theorem d10_access_63 : decode y10_access.2.1 63 = .ok (.iastore, 1) := by decide +kernel
theorem d10_access_64 : decode y10_access.2.1 64 = .ok (.iconst 0, 1) := by decide +kernel
theorem d10_access_65 : decode y10_access.2.1 65 = .ok (.ireturn, 1) := by decide +kernel
theorem d10_accessScratch_0 : decode y10_accessScratch.2.1 0 = .ok (.lload_n 2, 1) := by decide +kernel
theorem d10_accessScratch_1 : decode y10_accessScratch.2.1 1 = .ok (.lconst 0, 1) := by decide +kernel
theorem d10_accessScratch_2 : decode y10_accessScratch.2.1 2 = .ok (.lcmp, 1) := by decide +kernel
theorem d10_accessScratch_3 : decode y10_accessScratch.2.1 3 = .ok (.ifCond .lt 11, 3) := by decide +kernel
theorem d10_accessScratch_6 : decode y10_accessScratch.2.1 6 = .ok (.lload_n 2, 1) := by decide +kernel
theorem d10_accessScratch_7 : decode y10_accessScratch.2.1 7 = .ok (.ldc2_w 104, 3) := by decide +kernel
theorem d10_accessScratch_10 : decode y10_accessScratch.2.1 10 = .ok (.lcmp, 1) := by decide +kernel
theorem d10_accessScratch_11 : decode y10_accessScratch.2.1 11 = .ok (.ifCond .lt 5, 3) := by decide +kernel
theorem d10_accessScratch_14 : decode y10_accessScratch.2.1 14 = .ok (.iconst 2, 1) := by decide +kernel
theorem d10_accessScratch_15 : decode y10_accessScratch.2.1 15 = .ok (.ireturn, 1) := by decide +kernel
theorem d10_accessScratch_16 : decode y10_accessScratch.2.1 16 = .ok (.aload_n 1, 1) := by decide +kernel
theorem d10_accessScratch_17 : decode y10_accessScratch.2.1 17 = .ok (.getfield 49, 3) := by decide +kernel
theorem d10_accessScratch_20 : decode y10_accessScratch.2.1 20 = .ok (.bipush 11, 2) := by decide +kernel
theorem d10_accessScratch_22 : decode y10_accessScratch.2.1 22 = .ok (.if_icmp .ne 26, 3) := by decide +kernel
theorem d10_accessScratch_25 : decode y10_accessScratch.2.1 25 = .ok (.aload_n 0, 1) := by decide +kernel
theorem d10_accessScratch_26 : decode y10_accessScratch.2.1 26 = .ok (.getfield 9, 3) := by decide +kernel
theorem d10_accessScratch_29 : decode y10_accessScratch.2.1 29 = .ok (.aload_n 1, 1) := by decide +kernel
theorem d10_accessScratch_30 : decode y10_accessScratch.2.1 30 = .ok (.getfield 54, 3) := by decide +kernel
theorem d10_accessScratch_33 : decode y10_accessScratch.2.1 33 = .ok (.aload_n 0, 1) := by decide +kernel
theorem d10_accessScratch_34 : decode y10_accessScratch.2.1 34 = .ok (.getfield 15, 3) := by decide +kernel
theorem d10_accessScratch_37 : decode y10_accessScratch.2.1 37 = .ok (.lload_n 2, 1) := by decide +kernel
theorem d10_accessScratch_38 : decode y10_accessScratch.2.1 38 = .ok (.l2i, 1) := by decide +kernel
theorem d10_accessScratch_39 : decode y10_accessScratch.2.1 39 = .ok (.baload, 1) := by decide +kernel
theorem d10_accessScratch_40 : decode y10_accessScratch.2.1 40 = .ok (.sipush 255, 3) := by decide +kernel
theorem d10_accessScratch_43 : decode y10_accessScratch.2.1 43 = .ok (.iand, 1) := by decide +kernel
theorem d10_accessScratch_44 : decode y10_accessScratch.2.1 44 = .ok (.iastore, 1) := by decide +kernel
theorem d10_accessScratch_45 : decode y10_accessScratch.2.1 45 = .ok (.goto 20, 3) := by decide +kernel
theorem d10_accessScratch_48 : decode y10_accessScratch.2.1 48 = .ok (.aload_n 0, 1) := by decide +kernel
theorem d10_accessScratch_49 : decode y10_accessScratch.2.1 49 = .ok (.getfield 15, 3) := by decide +kernel
theorem d10_accessScratch_52 : decode y10_accessScratch.2.1 52 = .ok (.lload_n 2, 1) := by decide +kernel
theorem d10_accessScratch_53 : decode y10_accessScratch.2.1 53 = .ok (.l2i, 1) := by decide +kernel
theorem d10_accessScratch_54 : decode y10_accessScratch.2.1 54 = .ok (.aload_n 0, 1) := by decide +kernel
theorem d10_accessScratch_55 : decode y10_accessScratch.2.1 55 = .ok (.getfield 9, 3) := by decide +kernel
theorem d10_accessScratch_58 : decode y10_accessScratch.2.1 58 = .ok (.aload_n 1, 1) := by decide +kernel
theorem d10_accessScratch_59 : decode y10_accessScratch.2.1 59 = .ok (.getfield 54, 3) := by decide +kernel
theorem d10_accessScratch_62 : decode y10_accessScratch.2.1 62 = .ok (.iaload, 1) := by decide +kernel
theorem d10_accessScratch_63 : decode y10_accessScratch.2.1 63 = .ok (.i2b, 1) := by decide +kernel
theorem d10_accessScratch_64 : decode y10_accessScratch.2.1 64 = .ok (.bastore, 1) := by decide +kernel
theorem d10_accessScratch_65 : decode y10_accessScratch.2.1 65 = .ok (.iconst 0, 1) := by decide +kernel
theorem d10_accessScratch_66 : decode y10_accessScratch.2.1 66 = .ok (.ireturn, 1) := by decide +kernel
theorem d4_has_0 : decode y4_has.2.1 0 = .ok (.lload_n 1, 1) := by decide +kernel
theorem d4_has_1 : decode y4_has.2.1 1 = .ok (.lconst 0, 1) := by decide +kernel
theorem d4_has_2 : decode y4_has.2.1 2 = .ok (.lcmp, 1) := by decide +kernel
theorem d4_has_3 : decode y4_has.2.1 3 = .ok (.ifCond .lt 20, 3) := by decide +kernel
theorem d4_has_6 : decode y4_has.2.1 6 = .ok (.lload_n 1, 1) := by decide +kernel
theorem d4_has_7 : decode y4_has.2.1 7 = .ok (.iload_n 3, 1) := by decide +kernel
theorem d4_has_8 : decode y4_has.2.1 8 = .ok (.i2l, 1) := by decide +kernel
theorem d4_has_9 : decode y4_has.2.1 9 = .ok (.ladd, 1) := by decide +kernel
theorem d4_has_10 : decode y4_has.2.1 10 = .ok (.aload_n 0, 1) := by decide +kernel
theorem d4_has_11 : decode y4_has.2.1 11 = .ok (.getfield 15, 3) := by decide +kernel
theorem d4_has_14 : decode y4_has.2.1 14 = .ok (.i2l, 1) := by decide +kernel
theorem d4_has_15 : decode y4_has.2.1 15 = .ok (.lcmp, 1) := by decide +kernel
theorem d4_has_16 : decode y4_has.2.1 16 = .ok (.ifCond .gt 7, 3) := by decide +kernel
theorem d4_has_19 : decode y4_has.2.1 19 = .ok (.iconst 1, 1) := by decide +kernel
theorem d4_has_20 : decode y4_has.2.1 20 = .ok (.goto 4, 3) := by decide +kernel
theorem d4_has_23 : decode y4_has.2.1 23 = .ok (.iconst 0, 1) := by decide +kernel
theorem d4_has_24 : decode y4_has.2.1 24 = .ok (.ireturn, 1) := by decide +kernel
theorem d4_load_0 : decode y4_load.2.1 0 = .ok (.iconst 0, 1) := by decide +kernel
theorem d4_load_1 : decode y4_load.2.1 1 = .ok (.istore_n 3, 1) := by decide +kernel
theorem d4_load_2 : decode y4_load.2.1 2 = .ok (.iconst 0, 1) := by decide +kernel
theorem d4_load_3 : decode y4_load.2.1 3 = .ok (.istore 4, 2) := by decide +kernel
theorem d4_load_5 : decode y4_load.2.1 5 = .ok (.iload 4, 2) := by decide +kernel
theorem d4_load_7 : decode y4_load.2.1 7 = .ok (.iload_n 2, 1) := by decide +kernel
theorem d4_load_8 : decode y4_load.2.1 8 = .ok (.if_icmp .ge 28, 3) := by decide +kernel
theorem d4_load_11 : decode y4_load.2.1 11 = .ok (.iload_n 3, 1) := by decide +kernel
theorem d4_load_12 : decode y4_load.2.1 12 = .ok (.bipush 8, 2) := by decide +kernel
theorem d4_load_14 : decode y4_load.2.1 14 = .ok (.ishl, 1) := by decide +kernel
theorem d4_load_15 : decode y4_load.2.1 15 = .ok (.aload_n 0, 1) := by decide +kernel
theorem d4_load_16 : decode y4_load.2.1 16 = .ok (.getfield 9, 3) := by decide +kernel
theorem d4_load_19 : decode y4_load.2.1 19 = .ok (.iload_n 1, 1) := by decide +kernel
theorem d4_load_20 : decode y4_load.2.1 20 = .ok (.iload 4, 2) := by decide +kernel
theorem d4_load_22 : decode y4_load.2.1 22 = .ok (.iadd, 1) := by decide +kernel
theorem d4_load_23 : decode y4_load.2.1 23 = .ok (.baload, 1) := by decide +kernel
theorem d4_load_24 : decode y4_load.2.1 24 = .ok (.sipush 255, 3) := by decide +kernel
theorem d4_load_27 : decode y4_load.2.1 27 = .ok (.iand, 1) := by decide +kernel
theorem d4_load_28 : decode y4_load.2.1 28 = .ok (.ior, 1) := by decide +kernel
theorem d4_load_29 : decode y4_load.2.1 29 = .ok (.istore_n 3, 1) := by decide +kernel
theorem d4_load_30 : decode y4_load.2.1 30 = .ok (.iinc 4 1, 3) := by decide +kernel
theorem d4_load_33 : decode y4_load.2.1 33 = .ok (.goto (-28), 3) := by decide +kernel
theorem d4_load_36 : decode y4_load.2.1 36 = .ok (.iload_n 3, 1) := by decide +kernel
theorem d4_load_37 : decode y4_load.2.1 37 = .ok (.ireturn, 1) := by decide +kernel
theorem d10_jumps_0 : decode y10_jumps.2.1 0 = .ok (.aload_n 1, 1) := by decide +kernel
theorem d10_jumps_1 : decode y10_jumps.2.1 1 = .ok (.getfield 49, 3) := by decide +kernel
theorem d10_jumps_4 : decode y10_jumps.2.1 4 = .ok (.tableswitch 110 13 16 #[32, 34, 61, 83], 32) := by decide +kernel
theorem d10_jumps_36 : decode y10_jumps.2.1 36 = .ok (.iconst 1, 1) := by decide +kernel
theorem d10_jumps_37 : decode y10_jumps.2.1 37 = .ok (.ireturn, 1) := by decide +kernel
theorem d10_jumps_38 : decode y10_jumps.2.1 38 = .ok (.aload_n 0, 1) := by decide +kernel
theorem d10_jumps_39 : decode y10_jumps.2.1 39 = .ok (.getfield 9, 3) := by decide +kernel
theorem d10_jumps_42 : decode y10_jumps.2.1 42 = .ok (.aload_n 1, 1) := by decide +kernel
theorem d10_jumps_43 : decode y10_jumps.2.1 43 = .ok (.getfield 54, 3) := by decide +kernel
theorem d10_jumps_46 : decode y10_jumps.2.1 46 = .ok (.iaload, 1) := by decide +kernel
theorem d10_jumps_47 : decode y10_jumps.2.1 47 = .ok (.aload_n 0, 1) := by decide +kernel
theorem d10_jumps_48 : decode y10_jumps.2.1 48 = .ok (.getfield 9, 3) := by decide +kernel
theorem d10_jumps_51 : decode y10_jumps.2.1 51 = .ok (.aload_n 1, 1) := by decide +kernel
theorem d10_jumps_52 : decode y10_jumps.2.1 52 = .ok (.getfield 71, 3) := by decide +kernel
theorem d10_jumps_55 : decode y10_jumps.2.1 55 = .ok (.iaload, 1) := by decide +kernel
theorem d10_jumps_56 : decode y10_jumps.2.1 56 = .ok (.if_icmp .ge 7, 3) := by decide +kernel
theorem d10_jumps_59 : decode y10_jumps.2.1 59 = .ok (.iconst 1, 1) := by decide +kernel
theorem d10_jumps_60 : decode y10_jumps.2.1 60 = .ok (.goto 4, 3) := by decide +kernel
theorem d10_jumps_63 : decode y10_jumps.2.1 63 = .ok (.iconst 0, 1) := by decide +kernel
theorem d10_jumps_64 : decode y10_jumps.2.1 64 = .ok (.ireturn, 1) := by decide +kernel
theorem d10_jumps_65 : decode y10_jumps.2.1 65 = .ok (.aload_n 0, 1) := by decide +kernel
theorem d10_jumps_66 : decode y10_jumps.2.1 66 = .ok (.getfield 9, 3) := by decide +kernel
theorem d10_jumps_69 : decode y10_jumps.2.1 69 = .ok (.aload_n 1, 1) := by decide +kernel
theorem d10_jumps_70 : decode y10_jumps.2.1 70 = .ok (.getfield 54, 3) := by decide +kernel
theorem d10_jumps_73 : decode y10_jumps.2.1 73 = .ok (.iaload, 1) := by decide +kernel
theorem d10_jumps_74 : decode y10_jumps.2.1 74 = .ok (.aload_n 1, 1) := by decide +kernel
theorem d10_jumps_75 : decode y10_jumps.2.1 75 = .ok (.getfield 68, 3) := by decide +kernel
theorem d10_jumps_78 : decode y10_jumps.2.1 78 = .ok (.if_icmp .ge 7, 3) := by decide +kernel
theorem d10_jumps_81 : decode y10_jumps.2.1 81 = .ok (.iconst 1, 1) := by decide +kernel
theorem d10_jumps_82 : decode y10_jumps.2.1 82 = .ok (.goto 4, 3) := by decide +kernel
theorem d10_jumps_85 : decode y10_jumps.2.1 85 = .ok (.iconst 0, 1) := by decide +kernel
theorem d10_jumps_86 : decode y10_jumps.2.1 86 = .ok (.ireturn, 1) := by decide +kernel
theorem d10_jumps_87 : decode y10_jumps.2.1 87 = .ok (.aload_n 0, 1) := by decide +kernel
theorem d10_jumps_88 : decode y10_jumps.2.1 88 = .ok (.getfield 9, 3) := by decide +kernel
theorem d10_jumps_91 : decode y10_jumps.2.1 91 = .ok (.aload_n 1, 1) := by decide +kernel
theorem d10_jumps_92 : decode y10_jumps.2.1 92 = .ok (.getfield 54, 3) := by decide +kernel
theorem d10_jumps_95 : decode y10_jumps.2.1 95 = .ok (.iaload, 1) := by decide +kernel
theorem d10_jumps_96 : decode y10_jumps.2.1 96 = .ok (.aload_n 0, 1) := by decide +kernel
theorem d10_jumps_97 : decode y10_jumps.2.1 97 = .ok (.getfield 9, 3) := by decide +kernel
theorem d10_jumps_100 : decode y10_jumps.2.1 100 = .ok (.aload_n 1, 1) := by decide +kernel
theorem d10_jumps_101 : decode y10_jumps.2.1 101 = .ok (.getfield 71, 3) := by decide +kernel
theorem d10_jumps_104 : decode y10_jumps.2.1 104 = .ok (.iaload, 1) := by decide +kernel
theorem d10_jumps_105 : decode y10_jumps.2.1 105 = .ok (.if_icmp .ne 7, 3) := by decide +kernel
theorem d10_jumps_108 : decode y10_jumps.2.1 108 = .ok (.iconst 1, 1) := by decide +kernel
theorem d10_jumps_109 : decode y10_jumps.2.1 109 = .ok (.goto 4, 3) := by decide +kernel
theorem d10_jumps_112 : decode y10_jumps.2.1 112 = .ok (.iconst 0, 1) := by decide +kernel
theorem d10_jumps_113 : decode y10_jumps.2.1 113 = .ok (.ireturn, 1) := by decide +kernel
theorem d10_jumps_114 : decode y10_jumps.2.1 114 = .ok (.iconst 0, 1) := by decide +kernel
theorem d10_jumps_115 : decode y10_jumps.2.1 115 = .ok (.ireturn, 1) := by decide +kernel
theorem d0_result_0 : decode y0_result.2.1 0 = .ok (.aload_n 0, 1) := by decide +kernel
theorem d0_result_1 : decode y0_result.2.1 1 = .ok (.getfield 58, 3) := by decide +kernel
theorem d0_result_4 : decode y0_result.2.1 4 = .ok (.getfield 115, 3) := by decide +kernel
theorem d0_result_7 : decode y0_result.2.1 7 = .ok (.ireturn, 1) := by decide +kernel
theorem d0_steps_0 : decode y0_steps.2.1 0 = .ok (.aload_n 0, 1) := by decide +kernel
theorem d0_steps_1 : decode y0_steps.2.1 1 = .ok (.getfield 58, 3) := by decide +kernel
theorem d0_steps_4 : decode y0_steps.2.1 4 = .ok (.getfield 118, 3) := by decide +kernel
theorem d0_steps_7 : decode y0_steps.2.1 7 = .ok (.ireturn, 1) := by decide +kernel
theorem dL_cell_0 : decode yL_cell.2.1 0 = .ok (.iload_n 1, 1) := by decide +kernel
theorem dL_cell_1 : decode yL_cell.2.1 1 = .ok (.aload_n 0, 1) := by decide +kernel
theorem dL_cell_2 : decode yL_cell.2.1 2 = .ok (.arraylength, 1) := by decide +kernel
theorem dL_cell_3 : decode yL_cell.2.1 3 = .ok (.if_icmp .ge 9, 3) := by decide +kernel
theorem dL_cell_6 : decode yL_cell.2.1 6 = .ok (.aload_n 0, 1) := by decide +kernel
theorem dL_cell_7 : decode yL_cell.2.1 7 = .ok (.iload_n 1, 1) := by decide +kernel
theorem dL_cell_8 : decode yL_cell.2.1 8 = .ok (.iaload, 1) := by decide +kernel
theorem dL_cell_9 : decode yL_cell.2.1 9 = .ok (.goto 4, 3) := by decide +kernel
theorem dL_cell_12 : decode yL_cell.2.1 12 = .ok (.iconst 0, 1) := by decide +kernel
theorem dL_cell_13 : decode yL_cell.2.1 13 = .ok (.ireturn, 1) := by decide +kernel
