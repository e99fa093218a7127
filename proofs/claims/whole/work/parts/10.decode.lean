theorem d0_init_0 : decode y0_init.2.1 0 = .ok (.aload_n 0, 1) := by decide +kernel
theorem d0_init_1 : decode y0_init.2.1 1 = .ok (.invokespecial 3, 3) := by decide +kernel
theorem d0_init_4 : decode y0_init.2.1 4 = .ok (.aload_n 0, 1) := by decide +kernel
theorem d0_init_5 : decode y0_init.2.1 5 = .ok (.new 9, 3) := by decide +kernel
theorem d0_init_8 : decode y0_init.2.1 8 = .ok (.dup, 1) := by decide +kernel
theorem d0_init_9 : decode y0_init.2.1 9 = .ok (.iconst 0, 1) := by decide +kernel
theorem d0_init_10 : decode y0_init.2.1 10 = .ok (.sipush 1024, 3) := by decide +kernel
theorem d0_init_13 : decode y0_init.2.1 13 = .ok (.iload_n 1, 1) := by decide +kernel
theorem d0_init_14 : decode y0_init.2.1 14 = .ok (.invokestatic 11, 3) := by decide +kernel
theorem d0_init_17 : decode y0_init.2.1 17 = .ok (.invokestatic 17, 3) := by decide +kernel
theorem d0_init_20 : decode y0_init.2.1 20 = .ok (.invokespecial 20, 3) := by decide +kernel
theorem d0_init_23 : decode y0_init.2.1 23 = .ok (.putfield 23, 3) := by decide +kernel
theorem d0_init_26 : decode y0_init.2.1 26 = .ok (.aload_n 0, 1) := by decide +kernel
theorem d0_init_27 : decode y0_init.2.1 27 = .ok (.new 27, 3) := by decide +kernel
theorem d0_init_30 : decode y0_init.2.1 30 = .ok (.dup, 1) := by decide +kernel
theorem d0_init_31 : decode y0_init.2.1 31 = .ok (.invokespecial 29, 3) := by decide +kernel
theorem d0_init_34 : decode y0_init.2.1 34 = .ok (.putfield 30, 3) := by decide +kernel
theorem d0_init_37 : decode y0_init.2.1 37 = .ok (.aload_n 0, 1) := by decide +kernel
theorem d0_init_38 : decode y0_init.2.1 38 = .ok (.new 34, 3) := by decide +kernel
theorem d0_init_41 : decode y0_init.2.1 41 = .ok (.dup, 1) := by decide +kernel
theorem d0_init_42 : decode y0_init.2.1 42 = .ok (.invokespecial 36, 3) := by decide +kernel
theorem d0_init_45 : decode y0_init.2.1 45 = .ok (.putfield 37, 3) := by decide +kernel
theorem d0_init_48 : decode y0_init.2.1 48 = .ok (.aload_n 0, 1) := by decide +kernel
theorem d0_init_49 : decode y0_init.2.1 49 = .ok (.new 41, 3) := by decide +kernel
theorem d0_init_52 : decode y0_init.2.1 52 = .ok (.dup, 1) := by decide +kernel
theorem d0_init_53 : decode y0_init.2.1 53 = .ok (.invokespecial 43, 3) := by decide +kernel
theorem d0_init_56 : decode y0_init.2.1 56 = .ok (.putfield 44, 3) := by decide +kernel
theorem d0_init_59 : decode y0_init.2.1 59 = .ok (.aload_n 0, 1) := by decide +kernel
theorem d0_init_60 : decode y0_init.2.1 60 = .ok (.new 48, 3) := by decide +kernel
theorem d0_init_63 : decode y0_init.2.1 63 = .ok (.dup, 1) := by decide +kernel
theorem d0_init_64 : decode y0_init.2.1 64 = .ok (.invokespecial 50, 3) := by decide +kernel
theorem d0_init_67 : decode y0_init.2.1 67 = .ok (.putfield 51, 3) := by decide +kernel
theorem d0_init_70 : decode y0_init.2.1 70 = .ok (.aload_n 0, 1) := by decide +kernel
theorem d0_init_71 : decode y0_init.2.1 71 = .ok (.new 55, 3) := by decide +kernel
theorem d0_init_74 : decode y0_init.2.1 74 = .ok (.dup, 1) := by decide +kernel
theorem d0_init_75 : decode y0_init.2.1 75 = .ok (.invokespecial 57, 3) := by decide +kernel
theorem d0_init_78 : decode y0_init.2.1 78 = .ok (.putfield 58, 3) := by decide +kernel
theorem d0_init_81 : decode y0_init.2.1 81 = .ok (.aload_n 0, 1) := by decide +kernel
theorem d0_init_82 : decode y0_init.2.1 82 = .ok (.bipush (-2), 2) := by decide +kernel
theorem d0_init_84 : decode y0_init.2.1 84 = .ok (.putfield 62, 3) := by decide +kernel
theorem d0_init_87 : decode y0_init.2.1 87 = .ok (.return_, 1) := by decide +kernel
theorem dm_min_I_0 : decode ym_min_I.2.1 0 = .ok (.iload_n 0, 1) := by decide +kernel
theorem dm_min_I_1 : decode ym_min_I.2.1 1 = .ok (.iload_n 1, 1) := by decide +kernel
theorem dm_min_I_2 : decode ym_min_I.2.1 2 = .ok (.if_icmp .gt 7, 3) := by decide +kernel
theorem dm_min_I_5 : decode ym_min_I.2.1 5 = .ok (.iload_n 0, 1) := by decide +kernel
theorem dm_min_I_6 : decode ym_min_I.2.1 6 = .ok (.goto 4, 3) := by decide +kernel
theorem dm_min_I_9 : decode ym_min_I.2.1 9 = .ok (.iload_n 1, 1) := by decide +kernel
theorem dm_min_I_10 : decode ym_min_I.2.1 10 = .ok (.ireturn, 1) := by decide +kernel
theorem dm_max_I_0 : decode ym_max_I.2.1 0 = .ok (.iload_n 0, 1) := by decide +kernel
theorem dm_max_I_1 : decode ym_max_I.2.1 1 = .ok (.iload_n 1, 1) := by decide +kernel
theorem dm_max_I_2 : decode ym_max_I.2.1 2 = .ok (.if_icmp .lt 7, 3) := by decide +kernel
theorem dm_max_I_5 : decode ym_max_I.2.1 5 = .ok (.iload_n 0, 1) := by decide +kernel
theorem dm_max_I_6 : decode ym_max_I.2.1 6 = .ok (.goto 4, 3) := by decide +kernel
theorem dm_max_I_9 : decode ym_max_I.2.1 9 = .ok (.iload_n 1, 1) := by decide +kernel
theorem dm_max_I_10 : decode ym_max_I.2.1 10 = .ok (.ireturn, 1) := by decide +kernel
theorem d1_init_0 : decode y1_init.2.1 0 = .ok (.aload_n 0, 1) := by decide +kernel
theorem d1_init_1 : decode y1_init.2.1 1 = .ok (.invokespecial 3, 3) := by decide +kernel
theorem d1_init_4 : decode y1_init.2.1 4 = .ok (.aload_n 0, 1) := by decide +kernel
theorem d1_init_5 : decode y1_init.2.1 5 = .ok (.bipush 48, 2) := by decide +kernel
theorem d1_init_7 : decode y1_init.2.1 7 = .ok (.anewarray 9, 3) := by decide +kernel
theorem d1_init_10 : decode y1_init.2.1 10 = .ok (.putfield 11, 3) := by decide +kernel
theorem d1_init_13 : decode y1_init.2.1 13 = .ok (.aload_n 0, 1) := by decide +kernel
theorem d1_init_14 : decode y1_init.2.1 14 = .ok (.iload_n 1, 1) := by decide +kernel
theorem d1_init_15 : decode y1_init.2.1 15 = .ok (.putfield 17, 3) := by decide +kernel
theorem d1_init_18 : decode y1_init.2.1 18 = .ok (.iconst 0, 1) := by decide +kernel
theorem d1_init_19 : decode y1_init.2.1 19 = .ok (.istore_n 2, 1) := by decide +kernel
theorem d1_init_20 : decode y1_init.2.1 20 = .ok (.iload_n 2, 1) := by decide +kernel
theorem d1_init_21 : decode y1_init.2.1 21 = .ok (.bipush 48, 2) := by decide +kernel
theorem d1_init_23 : decode y1_init.2.1 23 = .ok (.if_icmp .ge 22, 3) := by decide +kernel
theorem d1_init_26 : decode y1_init.2.1 26 = .ok (.aload_n 0, 1) := by decide +kernel
theorem d1_init_27 : decode y1_init.2.1 27 = .ok (.getfield 11, 3) := by decide +kernel
theorem d1_init_30 : decode y1_init.2.1 30 = .ok (.iload_n 2, 1) := by decide +kernel
theorem d1_init_31 : decode y1_init.2.1 31 = .ok (.new 9, 3) := by decide +kernel
theorem d1_init_34 : decode y1_init.2.1 34 = .ok (.dup, 1) := by decide +kernel
theorem d1_init_35 : decode y1_init.2.1 35 = .ok (.invokespecial 21, 3) := by decide +kernel
theorem d1_init_38 : decode y1_init.2.1 38 = .ok (.aastore, 1) := by decide +kernel
theorem d1_init_39 : decode y1_init.2.1 39 = .ok (.iinc 2 1, 3) := by decide +kernel
theorem d1_init_42 : decode y1_init.2.1 42 = .ok (.goto (-22), 3) := by decide +kernel
theorem d1_init_45 : decode y1_init.2.1 45 = .ok (.return_, 1) := by decide +kernel
theorem d2_init_0 : decode y2_init.2.1 0 = .ok (.aload_n 0, 1) := by decide +kernel
theorem d2_init_1 : decode y2_init.2.1 1 = .ok (.invokespecial 3, 3) := by decide +kernel
theorem d2_init_4 : decode y2_init.2.1 4 = .ok (.return_, 1) := by decide +kernel
theorem d3_init_0 : decode y3_init.2.1 0 = .ok (.aload_n 0, 1) := by decide +kernel
theorem d3_init_1 : decode y3_init.2.1 1 = .ok (.invokespecial 3, 3) := by decide +kernel
theorem d3_init_4 : decode y3_init.2.1 4 = .ok (.aload_n 0, 1) := by decide +kernel
theorem d3_init_5 : decode y3_init.2.1 5 = .ok (.sipush 20000, 3) := by decide +kernel
theorem d3_init_8 : decode y3_init.2.1 8 = .ok (.newarray .int, 2) := by decide +kernel
theorem d3_init_10 : decode y3_init.2.1 10 = .ok (.putfield 9, 3) := by decide +kernel
theorem d3_init_13 : decode y3_init.2.1 13 = .ok (.return_, 1) := by decide +kernel
theorem d4_init_0 : decode y4_init.2.1 0 = .ok (.aload_n 0, 1) := by decide +kernel
theorem d4_init_1 : decode y4_init.2.1 1 = .ok (.invokespecial 3, 3) := by decide +kernel
theorem d4_init_4 : decode y4_init.2.1 4 = .ok (.aload_n 0, 1) := by decide +kernel
theorem d4_init_5 : decode y4_init.2.1 5 = .ok (.sipush 1024, 3) := by decide +kernel
theorem d4_init_8 : decode y4_init.2.1 8 = .ok (.newarray .byte, 2) := by decide +kernel
theorem d4_init_10 : decode y4_init.2.1 10 = .ok (.putfield 9, 3) := by decide +kernel
theorem d4_init_13 : decode y4_init.2.1 13 = .ok (.return_, 1) := by decide +kernel
theorem d5_init_0 : decode y5_init.2.1 0 = .ok (.aload_n 0, 1) := by decide +kernel
theorem d5_init_1 : decode y5_init.2.1 1 = .ok (.invokespecial 3, 3) := by decide +kernel
theorem d5_init_4 : decode y5_init.2.1 4 = .ok (.aload_n 0, 1) := by decide +kernel
theorem d5_init_5 : decode y5_init.2.1 5 = .ok (.bipush 48, 2) := by decide +kernel
theorem d5_init_7 : decode y5_init.2.1 7 = .ok (.bipush 100, 2) := by decide +kernel
theorem d5_init_9 : decode y5_init.2.1 9 = .ok (.multianewarray 9 2, 4) := by decide +kernel
theorem d5_init_13 : decode y5_init.2.1 13 = .ok (.putfield 11, 3) := by decide +kernel
theorem d5_init_16 : decode y5_init.2.1 16 = .ok (.aload_n 0, 1) := by decide +kernel
theorem d5_init_17 : decode y5_init.2.1 17 = .ok (.bipush 48, 2) := by decide +kernel
theorem d5_init_19 : decode y5_init.2.1 19 = .ok (.newarray .boolean, 2) := by decide +kernel
theorem d5_init_21 : decode y5_init.2.1 21 = .ok (.putfield 16, 3) := by decide +kernel
theorem d5_init_24 : decode y5_init.2.1 24 = .ok (.aload_n 0, 1) := by decide +kernel
theorem d5_init_25 : decode y5_init.2.1 25 = .ok (.bipush 96, 2) := by decide +kernel
theorem d5_init_27 : decode y5_init.2.1 27 = .ok (.newarray .boolean, 2) := by decide +kernel
theorem d5_init_29 : decode y5_init.2.1 29 = .ok (.putfield 20, 3) := by decide +kernel
theorem d5_init_32 : decode y5_init.2.1 32 = .ok (.aload_n 0, 1) := by decide +kernel
theorem d5_init_33 : decode y5_init.2.1 33 = .ok (.sipush 4800, 3) := by decide +kernel
theorem d5_init_36 : decode y5_init.2.1 36 = .ok (.newarray .boolean, 2) := by decide +kernel
theorem d5_init_38 : decode y5_init.2.1 38 = .ok (.putfield 23, 3) := by decide +kernel
theorem d5_init_41 : decode y5_init.2.1 41 = .ok (.aload_n 0, 1) := by decide +kernel
theorem d5_init_42 : decode y5_init.2.1 42 = .ok (.bipush 48, 2) := by decide +kernel
theorem d5_init_44 : decode y5_init.2.1 44 = .ok (.newarray .int, 2) := by decide +kernel
theorem d5_init_46 : decode y5_init.2.1 46 = .ok (.putfield 26, 3) := by decide +kernel
theorem d5_init_49 : decode y5_init.2.1 49 = .ok (.aload_n 0, 1) := by decide +kernel
theorem d5_init_50 : decode y5_init.2.1 50 = .ok (.bipush 100, 2) := by decide +kernel
theorem d5_init_52 : decode y5_init.2.1 52 = .ok (.newarray .int, 2) := by decide +kernel
theorem d5_init_54 : decode y5_init.2.1 54 = .ok (.putfield 30, 3) := by decide +kernel
theorem d5_init_57 : decode y5_init.2.1 57 = .ok (.aload_n 0, 1) := by decide +kernel
theorem d5_init_58 : decode y5_init.2.1 58 = .ok (.new 33, 3) := by decide +kernel
theorem d5_init_61 : decode y5_init.2.1 61 = .ok (.dup, 1) := by decide +kernel
theorem d5_init_62 : decode y5_init.2.1 62 = .ok (.invokespecial 35, 3) := by decide +kernel
theorem d5_init_65 : decode y5_init.2.1 65 = .ok (.putfield 36, 3) := by decide +kernel
theorem d5_init_68 : decode y5_init.2.1 68 = .ok (.aload_n 0, 1) := by decide +kernel
theorem d5_init_69 : decode y5_init.2.1 69 = .ok (.new 40, 3) := by decide +kernel
theorem d5_init_72 : decode y5_init.2.1 72 = .ok (.dup, 1) := by decide +kernel
theorem d5_init_73 : decode y5_init.2.1 73 = .ok (.invokespecial 42, 3) := by decide +kernel
theorem d5_init_76 : decode y5_init.2.1 76 = .ok (.putfield 43, 3) := by decide +kernel
theorem d5_init_79 : decode y5_init.2.1 79 = .ok (.iconst 0, 1) := by decide +kernel
theorem d5_init_80 : decode y5_init.2.1 80 = .ok (.istore_n 1, 1) := by decide +kernel
theorem d5_init_81 : decode y5_init.2.1 81 = .ok (.iload_n 1, 1) := by decide +kernel
theorem d5_init_82 : decode y5_init.2.1 82 = .ok (.bipush 48, 2) := by decide +kernel
theorem d5_init_84 : decode y5_init.2.1 84 = .ok (.if_icmp .ge 21, 3) := by decide +kernel
theorem d5_init_87 : decode y5_init.2.1 87 = .ok (.aload_n 0, 1) := by decide +kernel
theorem d5_init_88 : decode y5_init.2.1 88 = .ok (.getfield 11, 3) := by decide +kernel
theorem d5_init_91 : decode y5_init.2.1 91 = .ok (.iload_n 1, 1) := by decide +kernel
theorem d5_init_92 : decode y5_init.2.1 92 = .ok (.aaload, 1) := by decide +kernel
theorem d5_init_93 : decode y5_init.2.1 93 = .ok (.ldc2_w 47, 3) := by decide +kernel
theorem d5_init_96 : decode y5_init.2.1 96 = .ok (.invokestatic 49, 3) := by decide +kernel
theorem d5_init_99 : decode y5_init.2.1 99 = .ok (.iinc 1 1, 3) := by decide +kernel
theorem d5_init_102 : decode y5_init.2.1 102 = .ok (.goto (-21), 3) := by decide +kernel
theorem d5_init_105 : decode y5_init.2.1 105 = .ok (.return_, 1) := by decide +kernel
theorem d6_init_0 : decode y6_init.2.1 0 = .ok (.aload_n 0, 1) := by decide +kernel
theorem d6_init_1 : decode y6_init.2.1 1 = .ok (.invokespecial 3, 3) := by decide +kernel
theorem d6_init_4 : decode y6_init.2.1 4 = .ok (.aload_n 0, 1) := by decide +kernel
theorem d6_init_5 : decode y6_init.2.1 5 = .ok (.sipush 200, 3) := by decide +kernel
theorem d6_init_8 : decode y6_init.2.1 8 = .ok (.newarray .int, 2) := by decide +kernel
theorem d6_init_10 : decode y6_init.2.1 10 = .ok (.putfield 11, 3) := by decide +kernel
theorem d6_init_13 : decode y6_init.2.1 13 = .ok (.aload_n 0, 1) := by decide +kernel
theorem d6_init_14 : decode y6_init.2.1 14 = .ok (.sipush 200, 3) := by decide +kernel
theorem d6_init_17 : decode y6_init.2.1 17 = .ok (.newarray .int, 2) := by decide +kernel
theorem d6_init_19 : decode y6_init.2.1 19 = .ok (.putfield 15, 3) := by decide +kernel
theorem d6_init_22 : decode y6_init.2.1 22 = .ok (.aload_n 0, 1) := by decide +kernel
theorem d6_init_23 : decode y6_init.2.1 23 = .ok (.sipush 200, 3) := by decide +kernel
theorem d6_init_26 : decode y6_init.2.1 26 = .ok (.newarray .int, 2) := by decide +kernel
theorem d6_init_28 : decode y6_init.2.1 28 = .ok (.putfield 18, 3) := by decide +kernel
theorem d6_init_31 : decode y6_init.2.1 31 = .ok (.aload_n 0, 1) := by decide +kernel
theorem d6_init_32 : decode y6_init.2.1 32 = .ok (.sipush 200, 3) := by decide +kernel
theorem d6_init_35 : decode y6_init.2.1 35 = .ok (.newarray .long, 2) := by decide +kernel
theorem d6_init_37 : decode y6_init.2.1 37 = .ok (.putfield 21, 3) := by decide +kernel
theorem d6_init_40 : decode y6_init.2.1 40 = .ok (.aload_n 0, 1) := by decide +kernel
theorem d6_init_41 : decode y6_init.2.1 41 = .ok (.bipush 10, 2) := by decide +kernel
theorem d6_init_43 : decode y6_init.2.1 43 = .ok (.bipush 10, 2) := by decide +kernel
theorem d6_init_45 : decode y6_init.2.1 45 = .ok (.multianewarray 25 2, 4) := by decide +kernel
theorem d6_init_49 : decode y6_init.2.1 49 = .ok (.putfield 27, 3) := by decide +kernel
theorem d6_init_52 : decode y6_init.2.1 52 = .ok (.aload_n 0, 1) := by decide +kernel
theorem d6_init_53 : decode y6_init.2.1 53 = .ok (.new 30, 3) := by decide +kernel
theorem d6_init_56 : decode y6_init.2.1 56 = .ok (.dup, 1) := by decide +kernel
theorem d6_init_57 : decode y6_init.2.1 57 = .ok (.invokespecial 32, 3) := by decide +kernel
theorem d6_init_60 : decode y6_init.2.1 60 = .ok (.putfield 33, 3) := by decide +kernel
theorem d6_init_63 : decode y6_init.2.1 63 = .ok (.aload_n 0, 1) := by decide +kernel
theorem d6_init_64 : decode y6_init.2.1 64 = .ok (.new 30, 3) := by decide +kernel
theorem d6_init_67 : decode y6_init.2.1 67 = .ok (.dup, 1) := by decide +kernel
theorem d6_init_68 : decode y6_init.2.1 68 = .ok (.invokespecial 32, 3) := by decide +kernel
theorem d6_init_71 : decode y6_init.2.1 71 = .ok (.putfield 37, 3) := by decide +kernel
theorem d6_init_74 : decode y6_init.2.1 74 = .ok (.aload_n 0, 1) := by decide +kernel
theorem d6_init_75 : decode y6_init.2.1 75 = .ok (.new 30, 3) := by decide +kernel
theorem d6_init_78 : decode y6_init.2.1 78 = .ok (.dup, 1) := by decide +kernel
theorem d6_init_79 : decode y6_init.2.1 79 = .ok (.invokespecial 32, 3) := by decide +kernel
theorem d6_init_82 : decode y6_init.2.1 82 = .ok (.putfield 40, 3) := by decide +kernel
theorem d6_init_85 : decode y6_init.2.1 85 = .ok (.return_, 1) := by decide +kernel
theorem d7_init_0 : decode y7_init.2.1 0 = .ok (.aload_n 0, 1) := by decide +kernel
theorem d7_init_1 : decode y7_init.2.1 1 = .ok (.invokespecial 3, 3) := by decide +kernel
theorem d7_init_4 : decode y7_init.2.1 4 = .ok (.return_, 1) := by decide +kernel
theorem d8_init_0 : decode y8_init.2.1 0 = .ok (.aload_n 0, 1) := by decide +kernel
theorem d8_init_1 : decode y8_init.2.1 1 = .ok (.invokespecial 3, 3) := by decide +kernel
theorem d8_init_4 : decode y8_init.2.1 4 = .ok (.aload_n 0, 1) := by decide +kernel
theorem d8_init_5 : decode y8_init.2.1 5 = .ok (.bipush 13, 2) := by decide +kernel
theorem d8_init_7 : decode y8_init.2.1 7 = .ok (.bipush 10, 2) := by decide +kernel
theorem d8_init_9 : decode y8_init.2.1 9 = .ok (.multianewarray 9 2, 4) := by decide +kernel
theorem d8_init_13 : decode y8_init.2.1 13 = .ok (.putfield 11, 3) := by decide +kernel
theorem d8_init_16 : decode y8_init.2.1 16 = .ok (.aload_n 0, 1) := by decide +kernel
theorem d8_init_17 : decode y8_init.2.1 17 = .ok (.bipush 12, 2) := by decide +kernel
theorem d8_init_19 : decode y8_init.2.1 19 = .ok (.newarray .int, 2) := by decide +kernel
theorem d8_init_21 : decode y8_init.2.1 21 = .ok (.putfield 16, 3) := by decide +kernel
theorem d8_init_24 : decode y8_init.2.1 24 = .ok (.return_, 1) := by decide +kernel
theorem dr_fill_J_0 : decode yr_fill_J.2.1 0 = .ok (.iconst 0, 1) := by decide +kernel
theorem dr_fill_J_1 : decode yr_fill_J.2.1 1 = .ok (.istore_n 3, 1) := by decide +kernel
theorem dr_fill_J_2 : decode yr_fill_J.2.1 2 = .ok (.aload_n 0, 1) := by decide +kernel
theorem dr_fill_J_3 : decode yr_fill_J.2.1 3 = .ok (.arraylength, 1) := by decide +kernel
theorem dr_fill_J_4 : decode yr_fill_J.2.1 4 = .ok (.istore 4, 2) := by decide +kernel
theorem dr_fill_J_6 : decode yr_fill_J.2.1 6 = .ok (.iload_n 3, 1) := by decide +kernel
theorem dr_fill_J_7 : decode yr_fill_J.2.1 7 = .ok (.iload 4, 2) := by decide +kernel
theorem dr_fill_J_9 : decode yr_fill_J.2.1 9 = .ok (.if_icmp .ge 13, 3) := by decide +kernel
theorem dr_fill_J_12 : decode yr_fill_J.2.1 12 = .ok (.aload_n 0, 1) := by decide +kernel
theorem dr_fill_J_13 : decode yr_fill_J.2.1 13 = .ok (.iload_n 3, 1) := by decide +kernel
theorem dr_fill_J_14 : decode yr_fill_J.2.1 14 = .ok (.lload_n 1, 1) := by decide +kernel
theorem dr_fill_J_15 : decode yr_fill_J.2.1 15 = .ok (.lastore, 1) := by decide +kernel
theorem dr_fill_J_16 : decode yr_fill_J.2.1 16 = .ok (.iinc 3 1, 3) := by decide +kernel
theorem dr_fill_J_19 : decode yr_fill_J.2.1 19 = .ok (.goto (-13), 3) := by decide +kernel
theorem dr_fill_J_22 : decode yr_fill_J.2.1 22 = .ok (.return_, 1) := by decide +kernel
theorem d9_init_0 : decode y9_init.2.1 0 = .ok (.aload_n 0, 1) := by decide +kernel
theorem d9_init_1 : decode y9_init.2.1 1 = .ok (.invokespecial 3, 3) := by decide +kernel
theorem d9_init_4 : decode y9_init.2.1 4 = .ok (.aload_n 0, 1) := by decide +kernel
theorem d9_init_5 : decode y9_init.2.1 5 = .ok (.bipush 48, 2) := by decide +kernel
theorem d9_init_7 : decode y9_init.2.1 7 = .ok (.newarray .int, 2) := by decide +kernel
theorem d9_init_9 : decode y9_init.2.1 9 = .ok (.putfield 9, 3) := by decide +kernel
theorem d9_init_12 : decode y9_init.2.1 12 = .ok (.aload_n 0, 1) := by decide +kernel
theorem d9_init_13 : decode y9_init.2.1 13 = .ok (.bipush 48, 2) := by decide +kernel
theorem d9_init_15 : decode y9_init.2.1 15 = .ok (.newarray .int, 2) := by decide +kernel
theorem d9_init_17 : decode y9_init.2.1 17 = .ok (.putfield 15, 3) := by decide +kernel
theorem d9_init_20 : decode y9_init.2.1 20 = .ok (.aload_n 0, 1) := by decide +kernel
theorem d9_init_21 : decode y9_init.2.1 21 = .ok (.new 18, 3) := by decide +kernel
theorem d9_init_24 : decode y9_init.2.1 24 = .ok (.dup, 1) := by decide +kernel
theorem d9_init_25 : decode y9_init.2.1 25 = .ok (.invokespecial 20, 3) := by decide +kernel
theorem d9_init_28 : decode y9_init.2.1 28 = .ok (.putfield 21, 3) := by decide +kernel
theorem d9_init_31 : decode y9_init.2.1 31 = .ok (.aload_n 0, 1) := by decide +kernel
theorem d9_init_32 : decode y9_init.2.1 32 = .ok (.new 18, 3) := by decide +kernel
theorem d9_init_35 : decode y9_init.2.1 35 = .ok (.dup, 1) := by decide +kernel
theorem d9_init_36 : decode y9_init.2.1 36 = .ok (.invokespecial 20, 3) := by decide +kernel
theorem d9_init_39 : decode y9_init.2.1 39 = .ok (.putfield 25, 3) := by decide +kernel
theorem d9_init_42 : decode y9_init.2.1 42 = .ok (.aload_n 0, 1) := by decide +kernel
theorem d9_init_43 : decode y9_init.2.1 43 = .ok (.new 18, 3) := by decide +kernel
theorem d9_init_46 : decode y9_init.2.1 46 = .ok (.dup, 1) := by decide +kernel
theorem d9_init_47 : decode y9_init.2.1 47 = .ok (.invokespecial 20, 3) := by decide +kernel
theorem d9_init_50 : decode y9_init.2.1 50 = .ok (.putfield 28, 3) := by decide +kernel
theorem d9_init_53 : decode y9_init.2.1 53 = .ok (.return_, 1) := by decide +kernel
theorem d10_init_0 : decode y10_init.2.1 0 = .ok (.aload_n 0, 1) := by decide +kernel
theorem d10_init_1 : decode y10_init.2.1 1 = .ok (.invokespecial 3, 3) := by decide +kernel
theorem d10_init_4 : decode y10_init.2.1 4 = .ok (.aload_n 0, 1) := by decide +kernel
theorem d10_init_5 : decode y10_init.2.1 5 = .ok (.bipush 8, 2) := by decide +kernel
theorem d10_init_7 : decode y10_init.2.1 7 = .ok (.newarray .int, 2) := by decide +kernel
theorem d10_init_9 : decode y10_init.2.1 9 = .ok (.putfield 9, 3) := by decide +kernel
theorem d10_init_12 : decode y10_init.2.1 12 = .ok (.aload_n 0, 1) := by decide +kernel
theorem d10_init_13 : decode y10_init.2.1 13 = .ok (.bipush 32, 2) := by decide +kernel
theorem d10_init_15 : decode y10_init.2.1 15 = .ok (.newarray .byte, 2) := by decide +kernel
theorem d10_init_17 : decode y10_init.2.1 17 = .ok (.putfield 15, 3) := by decide +kernel
theorem d10_init_20 : decode y10_init.2.1 20 = .ok (.return_, 1) := by decide +kernel
theorem d0_instruction_0 : decode y0_instruction.2.1 0 = .ok (.iload_n 1, 1) := by decide +kernel
theorem d0_instruction_1 : decode y0_instruction.2.1 1 = .ok (.ifCond .lt 9, 3) := by decide +kernel
theorem d0_instruction_4 : decode y0_instruction.2.1 4 = .ok (.iload_n 1, 1) := by decide +kernel
theorem d0_instruction_5 : decode y0_instruction.2.1 5 = .ok (.bipush 16, 2) := by decide +kernel
theorem d0_instruction_7 : decode y0_instruction.2.1 7 = .ok (.if_icmp .le 5, 3) := by decide +kernel
theorem d0_instruction_10 : decode y0_instruction.2.1 10 = .ok (.iconst (-1), 1) := by decide +kernel
theorem d0_instruction_11 : decode y0_instruction.2.1 11 = .ok (.ireturn, 1) := by decide +kernel
theorem d0_instruction_12 : decode y0_instruction.2.1 12 = .ok (.aload_n 0, 1) := by decide +kernel
theorem d0_instruction_13 : decode y0_instruction.2.1 13 = .ok (.getfield 23, 3) := by decide +kernel
theorem d0_instruction_16 : decode y0_instruction.2.1 16 = .ok (.iload_n 1, 1) := by decide +kernel
theorem d0_instruction_17 : decode y0_instruction.2.1 17 = .ok (.iload_n 2, 1) := by decide +kernel
theorem d0_instruction_18 : decode y0_instruction.2.1 18 = .ok (.iload_n 3, 1) := by decide +kernel
theorem d0_instruction_19 : decode y0_instruction.2.1 19 = .ok (.iload 4, 2) := by decide +kernel
theorem d0_instruction_21 : decode y0_instruction.2.1 21 = .ok (.iload 5, 2) := by decide +kernel
theorem d0_instruction_23 : decode y0_instruction.2.1 23 = .ok (.invokevirtual 66, 3) := by decide +kernel
theorem d0_instruction_26 : decode y0_instruction.2.1 26 = .ok (.ifCond .eq 13, 3) := by decide +kernel
theorem d0_instruction_29 : decode y0_instruction.2.1 29 = .ok (.aload_n 0, 1) := by decide +kernel
theorem d0_instruction_30 : decode y0_instruction.2.1 30 = .ok (.getfield 23, 3) := by decide +kernel
theorem d0_instruction_33 : decode y0_instruction.2.1 33 = .ok (.getfield 70, 3) := by decide +kernel
theorem d0_instruction_36 : decode y0_instruction.2.1 36 = .ok (.goto 5, 3) := by decide +kernel
theorem d0_instruction_39 : decode y0_instruction.2.1 39 = .ok (.bipush (-3), 2) := by decide +kernel
theorem d0_instruction_41 : decode y0_instruction.2.1 41 = .ok (.ireturn, 1) := by decide +kernel
theorem d1_append_0 : decode y1_append.2.1 0 = .ok (.aload_n 0, 1) := by decide +kernel
theorem d1_append_1 : decode y1_append.2.1 1 = .ok (.getfield 22, 3) := by decide +kernel
theorem d1_append_4 : decode y1_append.2.1 4 = .ok (.bipush 48, 2) := by decide +kernel
theorem d1_append_6 : decode y1_append.2.1 6 = .ok (.if_icmp .lt 5, 3) := by decide +kernel
theorem d1_append_9 : decode y1_append.2.1 9 = .ok (.iconst 0, 1) := by decide +kernel
theorem d1_append_10 : decode y1_append.2.1 10 = .ok (.ireturn, 1) := by decide +kernel
theorem d1_append_11 : decode y1_append.2.1 11 = .ok (.aload_n 0, 1) := by decide +kernel
theorem d1_append_12 : decode y1_append.2.1 12 = .ok (.getfield 11, 3) := by decide +kernel
theorem d1_append_15 : decode y1_append.2.1 15 = .ok (.aload_n 0, 1) := by decide +kernel
theorem d1_append_16 : decode y1_append.2.1 16 = .ok (.getfield 22, 3) := by decide +kernel
theorem d1_append_19 : decode y1_append.2.1 19 = .ok (.aaload, 1) := by decide +kernel
theorem d1_append_20 : decode y1_append.2.1 20 = .ok (.astore 6, 2) := by decide +kernel
theorem d1_append_22 : decode y1_append.2.1 22 = .ok (.aload 6, 2) := by decide +kernel
theorem d1_append_24 : decode y1_append.2.1 24 = .ok (.iload_n 1, 1) := by decide +kernel
theorem d1_append_25 : decode y1_append.2.1 25 = .ok (.putfield 25, 3) := by decide +kernel
theorem d1_append_28 : decode y1_append.2.1 28 = .ok (.aload 6, 2) := by decide +kernel
theorem d1_append_30 : decode y1_append.2.1 30 = .ok (.iload_n 2, 1) := by decide +kernel
theorem d1_append_31 : decode y1_append.2.1 31 = .ok (.putfield 28, 3) := by decide +kernel
theorem d1_append_34 : decode y1_append.2.1 34 = .ok (.aload 6, 2) := by decide +kernel
theorem d1_append_36 : decode y1_append.2.1 36 = .ok (.iload_n 3, 1) := by decide +kernel
theorem d1_append_37 : decode y1_append.2.1 37 = .ok (.putfield 31, 3) := by decide +kernel
theorem d1_append_40 : decode y1_append.2.1 40 = .ok (.aload 6, 2) := by decide +kernel
theorem d1_append_42 : decode y1_append.2.1 42 = .ok (.iload 4, 2) := by decide +kernel
theorem d1_append_44 : decode y1_append.2.1 44 = .ok (.putfield 34, 3) := by decide +kernel
theorem d1_append_47 : decode y1_append.2.1 47 = .ok (.aload 6, 2) := by decide +kernel
theorem d1_append_49 : decode y1_append.2.1 49 = .ok (.iload 5, 2) := by decide +kernel
theorem d1_append_51 : decode y1_append.2.1 51 = .ok (.putfield 37, 3) := by decide +kernel
theorem d1_append_54 : decode y1_append.2.1 54 = .ok (.aload_n 0, 1) := by decide +kernel
theorem d1_append_55 : decode y1_append.2.1 55 = .ok (.dup, 1) := by decide +kernel
theorem d1_append_56 : decode y1_append.2.1 56 = .ok (.getfield 22, 3) := by decide +kernel
theorem d1_append_59 : decode y1_append.2.1 59 = .ok (.iconst 1, 1) := by decide +kernel
theorem d1_append_60 : decode y1_append.2.1 60 = .ok (.iadd, 1) := by decide +kernel
theorem d1_append_61 : decode y1_append.2.1 61 = .ok (.putfield 22, 3) := by decide +kernel
theorem d1_append_64 : decode y1_append.2.1 64 = .ok (.iconst 1, 1) := by decide +kernel
theorem d1_append_65 : decode y1_append.2.1 65 = .ok (.ireturn, 1) := by decide +kernel
theorem d0_clear_0 : decode y0_clear.2.1 0 = .ok (.aload_n 0, 1) := by decide +kernel
theorem d0_clear_1 : decode y0_clear.2.1 1 = .ok (.getfield 23, 3) := by decide +kernel
theorem d0_clear_4 : decode y0_clear.2.1 4 = .ok (.getfield 70, 3) := by decide +kernel
theorem d0_clear_7 : decode y0_clear.2.1 7 = .ok (.istore_n 1, 1) := by decide +kernel
theorem d0_clear_8 : decode y0_clear.2.1 8 = .ok (.aload_n 0, 1) := by decide +kernel
theorem d0_clear_9 : decode y0_clear.2.1 9 = .ok (.getfield 23, 3) := by decide +kernel
theorem d0_clear_12 : decode y0_clear.2.1 12 = .ok (.iconst 0, 1) := by decide +kernel
theorem d0_clear_13 : decode y0_clear.2.1 13 = .ok (.putfield 70, 3) := by decide +kernel
theorem d0_clear_16 : decode y0_clear.2.1 16 = .ok (.iload_n 1, 1) := by decide +kernel
theorem d0_clear_17 : decode y0_clear.2.1 17 = .ok (.ireturn, 1) := by decide +kernel
theorem d0_prove_0 : decode y0_prove.2.1 0 = .ok (.aload_n 0, 1) := by decide +kernel
theorem d0_prove_1 : decode y0_prove.2.1 1 = .ok (.getfield 30, 3) := by decide +kernel
theorem d0_prove_4 : decode y0_prove.2.1 4 = .ok (.iconst 0, 1) := by decide +kernel
theorem d0_prove_5 : decode y0_prove.2.1 5 = .ok (.invokevirtual 73, 3) := by decide +kernel
theorem d0_prove_8 : decode y0_prove.2.1 8 = .ok (.pop, 1) := by decide +kernel
theorem d0_prove_9 : decode y0_prove.2.1 9 = .ok (.aload_n 0, 1) := by decide +kernel
theorem d0_prove_10 : decode y0_prove.2.1 10 = .ok (.aload_n 0, 1) := by decide +kernel
theorem d0_prove_11 : decode y0_prove.2.1 11 = .ok (.getfield 23, 3) := by decide +kernel
theorem d0_prove_14 : decode y0_prove.2.1 14 = .ok (.invokevirtual 77, 3) := by decide +kernel
theorem d0_prove_17 : decode y0_prove.2.1 17 = .ok (.putfield 62, 3) := by decide +kernel
theorem d0_prove_20 : decode y0_prove.2.1 20 = .ok (.aload_n 0, 1) := by decide +kernel
theorem d0_prove_21 : decode y0_prove.2.1 21 = .ok (.getfield 62, 3) := by decide +kernel
theorem d0_prove_24 : decode y0_prove.2.1 24 = .ok (.bipush (-2), 2) := by decide +kernel
theorem d0_prove_26 : decode y0_prove.2.1 26 = .ok (.if_icmp .eq 5, 3) := by decide +kernel
theorem d0_prove_29 : decode y0_prove.2.1 29 = .ok (.iconst (-1), 1) := by decide +kernel
theorem d0_prove_30 : decode y0_prove.2.1 30 = .ok (.ireturn, 1) := by decide +kernel
theorem d0_prove_31 : decode y0_prove.2.1 31 = .ok (.aload_n 0, 1) := by decide +kernel
theorem d0_prove_32 : decode y0_prove.2.1 32 = .ok (.aload_n 0, 1) := by decide +kernel
theorem d0_prove_33 : decode y0_prove.2.1 33 = .ok (.getfield 44, 3) := by decide +kernel
theorem d0_prove_36 : decode y0_prove.2.1 36 = .ok (.aload_n 0, 1) := by decide +kernel
theorem d0_prove_37 : decode y0_prove.2.1 37 = .ok (.getfield 23, 3) := by decide +kernel
theorem d0_prove_40 : decode y0_prove.2.1 40 = .ok (.aload_n 0, 1) := by decide +kernel
theorem d0_prove_41 : decode y0_prove.2.1 41 = .ok (.getfield 30, 3) := by decide +kernel
theorem d0_prove_44 : decode y0_prove.2.1 44 = .ok (.invokevirtual 81, 3) := by decide +kernel
theorem d0_prove_47 : decode y0_prove.2.1 47 = .ok (.putfield 62, 3) := by decide +kernel
theorem d0_prove_50 : decode y0_prove.2.1 50 = .ok (.aload_n 0, 1) := by decide +kernel
theorem d0_prove_51 : decode y0_prove.2.1 51 = .ok (.getfield 62, 3) := by decide +kernel
theorem d0_prove_54 : decode y0_prove.2.1 54 = .ok (.bipush (-2), 2) := by decide +kernel
theorem d0_prove_56 : decode y0_prove.2.1 56 = .ok (.if_icmp .eq 15, 3) := by decide +kernel
theorem d0_prove_59 : decode y0_prove.2.1 59 = .ok (.aload_n 0, 1) := by decide +kernel
theorem d0_prove_60 : decode y0_prove.2.1 60 = .ok (.getfield 30, 3) := by decide +kernel
theorem d0_prove_63 : decode y0_prove.2.1 63 = .ok (.iconst 0, 1) := by decide +kernel
theorem d0_prove_64 : decode y0_prove.2.1 64 = .ok (.invokevirtual 73, 3) := by decide +kernel
theorem d0_prove_67 : decode y0_prove.2.1 67 = .ok (.pop, 1) := by decide +kernel
theorem d0_prove_68 : decode y0_prove.2.1 68 = .ok (.bipush (-2), 2) := by decide +kernel
theorem d0_prove_70 : decode y0_prove.2.1 70 = .ok (.ireturn, 1) := by decide +kernel
theorem d0_prove_71 : decode y0_prove.2.1 71 = .ok (.aload_n 0, 1) := by decide +kernel
theorem d0_prove_72 : decode y0_prove.2.1 72 = .ok (.getfield 30, 3) := by decide +kernel
theorem d0_prove_75 : decode y0_prove.2.1 75 = .ok (.getfield 85, 3) := by decide +kernel
theorem d0_prove_78 : decode y0_prove.2.1 78 = .ok (.ireturn, 1) := by decide +kernel
theorem d3_keep_0 : decode y3_keep.2.1 0 = .ok (.iload_n 1, 1) := by decide +kernel
theorem d3_keep_1 : decode y3_keep.2.1 1 = .ok (.ifCond .lt 11, 3) := by decide +kernel
theorem d3_keep_4 : decode y3_keep.2.1 4 = .ok (.iload_n 1, 1) := by decide +kernel
theorem d3_keep_5 : decode y3_keep.2.1 5 = .ok (.aload_n 0, 1) := by decide +kernel
theorem d3_keep_6 : decode y3_keep.2.1 6 = .ok (.getfield 15, 3) := by decide +kernel
theorem d3_keep_9 : decode y3_keep.2.1 9 = .ok (.if_icmp .le 5, 3) := by decide +kernel
theorem d3_keep_12 : decode y3_keep.2.1 12 = .ok (.iconst 0, 1) := by decide +kernel
theorem d3_keep_13 : decode y3_keep.2.1 13 = .ok (.ireturn, 1) := by decide +kernel
theorem d3_keep_14 : decode y3_keep.2.1 14 = .ok (.aload_n 0, 1) := by decide +kernel
theorem d3_keep_15 : decode y3_keep.2.1 15 = .ok (.iload_n 1, 1) := by decide +kernel
theorem d3_keep_16 : decode y3_keep.2.1 16 = .ok (.putfield 15, 3) := by decide +kernel
theorem d3_keep_19 : decode y3_keep.2.1 19 = .ok (.iconst 1, 1) := by decide +kernel
theorem d3_keep_20 : decode y3_keep.2.1 20 = .ok (.ireturn, 1) := by decide +kernel
theorem d1_wrongPlace_0 : decode y1_wrongPlace.2.1 0 = .ok (.iconst 0, 1) := by decide +kernel
theorem d1_wrongPlace_1 : decode y1_wrongPlace.2.1 1 = .ok (.istore_n 1, 1) := by decide +kernel
theorem d1_wrongPlace_2 : decode y1_wrongPlace.2.1 2 = .ok (.iload_n 1, 1) := by decide +kernel
theorem d1_wrongPlace_3 : decode y1_wrongPlace.2.1 3 = .ok (.aload_n 0, 1) := by decide +kernel
theorem d1_wrongPlace_4 : decode y1_wrongPlace.2.1 4 = .ok (.getfield 22, 3) := by decide +kernel
theorem d1_wrongPlace_7 : decode y1_wrongPlace.2.1 7 = .ok (.if_icmp .ge 28, 3) := by decide +kernel
theorem d1_wrongPlace_10 : decode y1_wrongPlace.2.1 10 = .ok (.aload_n 0, 1) := by decide +kernel
theorem d1_wrongPlace_11 : decode y1_wrongPlace.2.1 11 = .ok (.getfield 11, 3) := by decide +kernel
theorem d1_wrongPlace_14 : decode y1_wrongPlace.2.1 14 = .ok (.iload_n 1, 1) := by decide +kernel
theorem d1_wrongPlace_15 : decode y1_wrongPlace.2.1 15 = .ok (.aaload, 1) := by decide +kernel
theorem d1_wrongPlace_16 : decode y1_wrongPlace.2.1 16 = .ok (.iload_n 1, 1) := by decide +kernel
theorem d1_wrongPlace_17 : decode y1_wrongPlace.2.1 17 = .ok (.aload_n 0, 1) := by decide +kernel
theorem d1_wrongPlace_18 : decode y1_wrongPlace.2.1 18 = .ok (.getfield 22, 3) := by decide +kernel
theorem d1_wrongPlace_21 : decode y1_wrongPlace.2.1 21 = .ok (.invokevirtual 40, 3) := by decide +kernel
theorem d1_wrongPlace_24 : decode y1_wrongPlace.2.1 24 = .ok (.ifCond .ne 5, 3) := by decide +kernel
theorem d1_wrongPlace_27 : decode y1_wrongPlace.2.1 27 = .ok (.iload_n 1, 1) := by decide +kernel
theorem d1_wrongPlace_28 : decode y1_wrongPlace.2.1 28 = .ok (.ireturn, 1) := by decide +kernel
theorem d1_wrongPlace_29 : decode y1_wrongPlace.2.1 29 = .ok (.iinc 1 1, 3) := by decide +kernel
theorem d1_wrongPlace_32 : decode y1_wrongPlace.2.1 32 = .ok (.goto (-30), 3) := by decide +kernel
theorem d1_wrongPlace_35 : decode y1_wrongPlace.2.1 35 = .ok (.aload_n 0, 1) := by decide +kernel
theorem d1_wrongPlace_36 : decode y1_wrongPlace.2.1 36 = .ok (.getfield 22, 3) := by decide +kernel
theorem d1_wrongPlace_39 : decode y1_wrongPlace.2.1 39 = .ok (.ifCond .le 24, 3) := by decide +kernel
theorem d1_wrongPlace_42 : decode y1_wrongPlace.2.1 42 = .ok (.aload_n 0, 1) := by decide +kernel
theorem d1_wrongPlace_43 : decode y1_wrongPlace.2.1 43 = .ok (.getfield 11, 3) := by decide +kernel
theorem d1_wrongPlace_46 : decode y1_wrongPlace.2.1 46 = .ok (.aload_n 0, 1) := by decide +kernel
theorem d1_wrongPlace_47 : decode y1_wrongPlace.2.1 47 = .ok (.getfield 22, 3) := by decide +kernel
theorem d1_wrongPlace_50 : decode y1_wrongPlace.2.1 50 = .ok (.iconst 1, 1) := by decide +kernel
theorem d1_wrongPlace_51 : decode y1_wrongPlace.2.1 51 = .ok (.isub, 1) := by decide +kernel
theorem d1_wrongPlace_52 : decode y1_wrongPlace.2.1 52 = .ok (.aaload, 1) := by decide +kernel
theorem d1_wrongPlace_53 : decode y1_wrongPlace.2.1 53 = .ok (.getfield 25, 3) := by decide +kernel
theorem d1_wrongPlace_56 : decode y1_wrongPlace.2.1 56 = .ok (.ifCond .ne 7, 3) := by decide +kernel
theorem d1_wrongPlace_59 : decode y1_wrongPlace.2.1 59 = .ok (.iconst 1, 1) := by decide +kernel
theorem d1_wrongPlace_60 : decode y1_wrongPlace.2.1 60 = .ok (.goto 4, 3) := by decide +kernel
theorem d1_wrongPlace_63 : decode y1_wrongPlace.2.1 63 = .ok (.iconst 0, 1) := by decide +kernel
theorem d1_wrongPlace_64 : decode y1_wrongPlace.2.1 64 = .ok (.istore_n 1, 1) := by decide +kernel
theorem d1_wrongPlace_65 : decode y1_wrongPlace.2.1 65 = .ok (.iload_n 1, 1) := by decide +kernel
theorem d1_wrongPlace_66 : decode y1_wrongPlace.2.1 66 = .ok (.ifCond .eq 8, 3) := by decide +kernel
theorem d1_wrongPlace_69 : decode y1_wrongPlace.2.1 69 = .ok (.bipush (-2), 2) := by decide +kernel
theorem d1_wrongPlace_71 : decode y1_wrongPlace.2.1 71 = .ok (.goto 7, 3) := by decide +kernel
theorem d1_wrongPlace_74 : decode y1_wrongPlace.2.1 74 = .ok (.aload_n 0, 1) := by decide +kernel
theorem d1_wrongPlace_75 : decode y1_wrongPlace.2.1 75 = .ok (.getfield 22, 3) := by decide +kernel
theorem d1_wrongPlace_78 : decode y1_wrongPlace.2.1 78 = .ok (.ireturn, 1) := by decide +kernel
theorem d2_isRight_0 : decode y2_isRight.2.1 0 = .ok (.aload_n 0, 1) := by decide +kernel
theorem d2_isRight_1 : decode y2_isRight.2.1 1 = .ok (.getfield 9, 3) := by decide +kernel
theorem d2_isRight_4 : decode y2_isRight.2.1 4 = .ok (.invokestatic 15, 3) := by decide +kernel
theorem d2_isRight_7 : decode y2_isRight.2.1 7 = .ok (.ifCond .eq 33, 3) := by decide +kernel
theorem d2_isRight_10 : decode y2_isRight.2.1 10 = .ok (.aload_n 0, 1) := by decide +kernel
theorem d2_isRight_11 : decode y2_isRight.2.1 11 = .ok (.getfield 19, 3) := by decide +kernel
theorem d2_isRight_14 : decode y2_isRight.2.1 14 = .ok (.invokestatic 15, 3) := by decide +kernel
theorem d2_isRight_17 : decode y2_isRight.2.1 17 = .ok (.ifCond .eq 23, 3) := by decide +kernel
theorem d2_isRight_20 : decode y2_isRight.2.1 20 = .ok (.aload_n 0, 1) := by decide +kernel
theorem d2_isRight_21 : decode y2_isRight.2.1 21 = .ok (.invokevirtual 22, 3) := by decide +kernel
theorem d2_isRight_24 : decode y2_isRight.2.1 24 = .ok (.ifCond .eq 16, 3) := by decide +kernel
theorem d2_isRight_27 : decode y2_isRight.2.1 27 = .ok (.aload_n 0, 1) := by decide +kernel
theorem d2_isRight_28 : decode y2_isRight.2.1 28 = .ok (.iload_n 1, 1) := by decide +kernel
theorem d2_isRight_29 : decode y2_isRight.2.1 29 = .ok (.iload_n 2, 1) := by decide +kernel
theorem d2_isRight_30 : decode y2_isRight.2.1 30 = .ok (.invokevirtual 26, 3) := by decide +kernel
theorem d2_isRight_33 : decode y2_isRight.2.1 33 = .ok (.ifCond .eq 7, 3) := by decide +kernel
theorem d2_isRight_36 : decode y2_isRight.2.1 36 = .ok (.iconst 1, 1) := by decide +kernel
theorem d2_isRight_37 : decode y2_isRight.2.1 37 = .ok (.goto 4, 3) := by decide +kernel
theorem d2_isRight_40 : decode y2_isRight.2.1 40 = .ok (.iconst 0, 1) := by decide +kernel
theorem d2_isRight_41 : decode y2_isRight.2.1 41 = .ok (.ireturn, 1) := by decide +kernel
theorem d2_isRegister_0 : decode y2_isRegister.2.1 0 = .ok (.iload_n 0, 1) := by decide +kernel
theorem d2_isRegister_1 : decode y2_isRegister.2.1 1 = .ok (.ifCond .lt 13, 3) := by decide +kernel
theorem d2_isRegister_4 : decode y2_isRegister.2.1 4 = .ok (.iload_n 0, 1) := by decide +kernel
theorem d2_isRegister_5 : decode y2_isRegister.2.1 5 = .ok (.bipush 8, 2) := by decide +kernel
theorem d2_isRegister_7 : decode y2_isRegister.2.1 7 = .ok (.if_icmp .ge 7, 3) := by decide +kernel
theorem d2_isRegister_10 : decode y2_isRegister.2.1 10 = .ok (.iconst 1, 1) := by decide +kernel
theorem d2_isRegister_11 : decode y2_isRegister.2.1 11 = .ok (.goto 4, 3) := by decide +kernel
theorem d2_isRegister_14 : decode y2_isRegister.2.1 14 = .ok (.iconst 0, 1) := by decide +kernel
theorem d2_isRegister_15 : decode y2_isRegister.2.1 15 = .ok (.ireturn, 1) := by decide +kernel
theorem d2_hasRightNumber_0 : decode y2_hasRightNumber.2.1 0 = .ok (.aload_n 0, 1) := by decide +kernel
theorem d2_hasRightNumber_1 : decode y2_hasRightNumber.2.1 1 = .ok (.getfield 30, 3) := by decide +kernel
theorem d2_hasRightNumber_4 : decode y2_hasRightNumber.2.1 4 = .ok (.bipush 6, 2) := by decide +kernel
theorem d2_hasRightNumber_6 : decode y2_hasRightNumber.2.1 6 = .ok (.if_icmp .ne 16, 3) := by decide +kernel
theorem d2_hasRightNumber_9 : decode y2_hasRightNumber.2.1 9 = .ok (.aload_n 0, 1) := by decide +kernel
theorem d2_hasRightNumber_10 : decode y2_hasRightNumber.2.1 10 = .ok (.getfield 33, 3) := by decide +kernel
theorem d2_hasRightNumber_13 : decode y2_hasRightNumber.2.1 13 = .ok (.ifCond .lt 7, 3) := by decide +kernel
theorem d2_hasRightNumber_16 : decode y2_hasRightNumber.2.1 16 = .ok (.iconst 1, 1) := by decide +kernel
theorem d2_hasRightNumber_17 : decode y2_hasRightNumber.2.1 17 = .ok (.goto 4, 3) := by decide +kernel
theorem d2_hasRightNumber_20 : decode y2_hasRightNumber.2.1 20 = .ok (.iconst 0, 1) := by decide +kernel
theorem d2_hasRightNumber_21 : decode y2_hasRightNumber.2.1 21 = .ok (.ireturn, 1) := by decide +kernel
theorem d2_hasRightNumber_22 : decode y2_hasRightNumber.2.1 22 = .ok (.aload_n 0, 1) := by decide +kernel
theorem d2_hasRightNumber_23 : decode y2_hasRightNumber.2.1 23 = .ok (.getfield 30, 3) := by decide +kernel
theorem d2_hasRightNumber_26 : decode y2_hasRightNumber.2.1 26 = .ok (.bipush 7, 2) := by decide +kernel
theorem d2_hasRightNumber_28 : decode y2_hasRightNumber.2.1 28 = .ok (.if_icmp .ne 20, 3) := by decide +kernel
theorem d2_hasRightNumber_31 : decode y2_hasRightNumber.2.1 31 = .ok (.aload_n 0, 1) := by decide +kernel
theorem d2_hasRightNumber_32 : decode y2_hasRightNumber.2.1 32 = .ok (.getfield 33, 3) := by decide +kernel
theorem d2_hasRightNumber_35 : decode y2_hasRightNumber.2.1 35 = .ok (.iconst 1, 1) := by decide +kernel
theorem d2_hasRightNumber_36 : decode y2_hasRightNumber.2.1 36 = .ok (.if_icmp .lt 16, 3) := by decide +kernel
theorem d2_hasRightNumber_39 : decode y2_hasRightNumber.2.1 39 = .ok (.aload_n 0, 1) := by decide +kernel
theorem d2_hasRightNumber_40 : decode y2_hasRightNumber.2.1 40 = .ok (.getfield 33, 3) := by decide +kernel
theorem d2_hasRightNumber_43 : decode y2_hasRightNumber.2.1 43 = .ok (.bipush 31, 2) := by decide +kernel
theorem d2_hasRightNumber_45 : decode y2_hasRightNumber.2.1 45 = .ok (.if_icmp .gt 7, 3) := by decide +kernel
theorem d2_hasRightNumber_48 : decode y2_hasRightNumber.2.1 48 = .ok (.iconst 1, 1) := by decide +kernel
theorem d2_hasRightNumber_49 : decode y2_hasRightNumber.2.1 49 = .ok (.goto 4, 3) := by decide +kernel
theorem d2_hasRightNumber_52 : decode y2_hasRightNumber.2.1 52 = .ok (.iconst 0, 1) := by decide +kernel
theorem d2_hasRightNumber_53 : decode y2_hasRightNumber.2.1 53 = .ok (.ireturn, 1) := by decide +kernel
theorem d2_hasRightTarget_0 : decode y2_hasRightTarget.2.1 0 = .ok (.aload_n 0, 1) := by decide +kernel
theorem d2_hasRightTarget_1 : decode y2_hasRightTarget.2.1 1 = .ok (.getfield 30, 3) := by decide +kernel
theorem d2_hasRightTarget_4 : decode y2_hasRightTarget.2.1 4 = .ok (.bipush 13, 2) := by decide +kernel
theorem d2_hasRightTarget_6 : decode y2_hasRightTarget.2.1 6 = .ok (.if_icmp .lt 19, 3) := by decide +kernel
theorem d2_hasRightTarget_9 : decode y2_hasRightTarget.2.1 9 = .ok (.aload_n 0, 1) := by decide +kernel
theorem d2_hasRightTarget_10 : decode y2_hasRightTarget.2.1 10 = .ok (.getfield 36, 3) := by decide +kernel
theorem d2_hasRightTarget_13 : decode y2_hasRightTarget.2.1 13 = .ok (.iload_n 1, 1) := by decide +kernel
theorem d2_hasRightTarget_14 : decode y2_hasRightTarget.2.1 14 = .ok (.if_icmp .le 15, 3) := by decide +kernel
theorem d2_hasRightTarget_17 : decode y2_hasRightTarget.2.1 17 = .ok (.aload_n 0, 1) := by decide +kernel
theorem d2_hasRightTarget_18 : decode y2_hasRightTarget.2.1 18 = .ok (.getfield 36, 3) := by decide +kernel
theorem d2_hasRightTarget_21 : decode y2_hasRightTarget.2.1 21 = .ok (.iload_n 2, 1) := by decide +kernel
theorem d2_hasRightTarget_22 : decode y2_hasRightTarget.2.1 22 = .ok (.if_icmp .ge 7, 3) := by decide +kernel
theorem d2_hasRightTarget_25 : decode y2_hasRightTarget.2.1 25 = .ok (.iconst 1, 1) := by decide +kernel
theorem d2_hasRightTarget_26 : decode y2_hasRightTarget.2.1 26 = .ok (.goto 4, 3) := by decide +kernel
theorem d2_hasRightTarget_29 : decode y2_hasRightTarget.2.1 29 = .ok (.iconst 0, 1) := by decide +kernel
theorem d2_hasRightTarget_30 : decode y2_hasRightTarget.2.1 30 = .ok (.ireturn, 1) := by decide +kernel
theorem d5_produce_0 : decode y5_produce.2.1 0 = .ok (.aload_n 0, 1) := by decide +kernel
theorem d5_produce_1 : decode y5_produce.2.1 1 = .ok (.aload_n 1, 1) := by decide +kernel
theorem d5_produce_2 : decode y5_produce.2.1 2 = .ok (.putfield 55, 3) := by decide +kernel
theorem d5_produce_5 : decode y5_produce.2.1 5 = .ok (.aload_n 0, 1) := by decide +kernel
theorem d5_produce_6 : decode y5_produce.2.1 6 = .ok (.aload_n 2, 1) := by decide +kernel
theorem d5_produce_7 : decode y5_produce.2.1 7 = .ok (.putfield 59, 3) := by decide +kernel
theorem d5_produce_10 : decode y5_produce.2.1 10 = .ok (.aload_n 0, 1) := by decide +kernel
theorem d5_produce_11 : decode y5_produce.2.1 11 = .ok (.iconst 0, 1) := by decide +kernel
theorem d5_produce_12 : decode y5_produce.2.1 12 = .ok (.putfield 63, 3) := by decide +kernel
theorem d5_produce_15 : decode y5_produce.2.1 15 = .ok (.aload_n 0, 1) := by decide +kernel
theorem d5_produce_16 : decode y5_produce.2.1 16 = .ok (.iconst 1, 1) := by decide +kernel
theorem d5_produce_17 : decode y5_produce.2.1 17 = .ok (.putfield 67, 3) := by decide +kernel
theorem d5_produce_20 : decode y5_produce.2.1 20 = .ok (.aload_n 0, 1) := by decide +kernel
theorem d5_produce_21 : decode y5_produce.2.1 21 = .ok (.invokevirtual 70, 3) := by decide +kernel
theorem d5_produce_24 : decode y5_produce.2.1 24 = .ok (.aload_n 1, 1) := by decide +kernel
theorem d5_produce_25 : decode y5_produce.2.1 25 = .ok (.getfield 73, 3) := by decide +kernel
theorem d5_produce_28 : decode y5_produce.2.1 28 = .ok (.iconst 1, 1) := by decide +kernel
theorem d5_produce_29 : decode y5_produce.2.1 29 = .ok (.isub, 1) := by decide +kernel
theorem d5_produce_30 : decode y5_produce.2.1 30 = .ok (.istore_n 3, 1) := by decide +kernel
theorem d5_produce_31 : decode y5_produce.2.1 31 = .ok (.iload_n 3, 1) := by decide +kernel
theorem d5_produce_32 : decode y5_produce.2.1 32 = .ok (.ifCond .lt 64, 3) := by decide +kernel
theorem d5_produce_35 : decode y5_produce.2.1 35 = .ok (.aload_n 0, 1) := by decide +kernel
theorem d5_produce_36 : decode y5_produce.2.1 36 = .ok (.iload_n 3, 1) := by decide +kernel
theorem d5_produce_37 : decode y5_produce.2.1 37 = .ok (.invokevirtual 79, 3) := by decide +kernel
theorem d5_produce_40 : decode y5_produce.2.1 40 = .ok (.aload_n 0, 1) := by decide +kernel
theorem d5_produce_41 : decode y5_produce.2.1 41 = .ok (.getfield 16, 3) := by decide +kernel
theorem d5_produce_44 : decode y5_produce.2.1 44 = .ok (.iload_n 3, 1) := by decide +kernel
theorem d5_produce_45 : decode y5_produce.2.1 45 = .ok (.baload, 1) := by decide +kernel
theorem d5_produce_46 : decode y5_produce.2.1 46 = .ok (.ifCond .eq 30, 3) := by decide +kernel
theorem d5_produce_49 : decode y5_produce.2.1 49 = .ok (.aload_n 0, 1) := by decide +kernel
theorem d5_produce_50 : decode y5_produce.2.1 50 = .ok (.iload_n 3, 1) := by decide +kernel
theorem d5_produce_51 : decode y5_produce.2.1 51 = .ok (.invokevirtual 83, 3) := by decide +kernel
theorem d5_produce_54 : decode y5_produce.2.1 54 = .ok (.ifCond .eq 26, 3) := by decide +kernel
theorem d5_produce_57 : decode y5_produce.2.1 57 = .ok (.aload_n 0, 1) := by decide +kernel
theorem d5_produce_58 : decode y5_produce.2.1 58 = .ok (.iload_n 3, 1) := by decide +kernel
theorem d5_produce_59 : decode y5_produce.2.1 59 = .ok (.invokevirtual 87, 3) := by decide +kernel
theorem d5_produce_62 : decode y5_produce.2.1 62 = .ok (.ifCond .eq 18, 3) := by decide +kernel
theorem d5_produce_65 : decode y5_produce.2.1 65 = .ok (.aload_n 0, 1) := by decide +kernel
theorem d5_produce_66 : decode y5_produce.2.1 66 = .ok (.getfield 26, 3) := by decide +kernel
theorem d5_produce_69 : decode y5_produce.2.1 69 = .ok (.iload_n 3, 1) := by decide +kernel
theorem d5_produce_70 : decode y5_produce.2.1 70 = .ok (.iaload, 1) := by decide +kernel
theorem d5_produce_71 : decode y5_produce.2.1 71 = .ok (.bipush 24, 2) := by decide +kernel
theorem d5_produce_73 : decode y5_produce.2.1 73 = .ok (.if_icmp .gt 7, 3) := by decide +kernel
theorem d5_produce_76 : decode y5_produce.2.1 76 = .ok (.iconst 1, 1) := by decide +kernel
theorem d5_produce_77 : decode y5_produce.2.1 77 = .ok (.goto 4, 3) := by decide +kernel
theorem d5_produce_80 : decode y5_produce.2.1 80 = .ok (.iconst 0, 1) := by decide +kernel
theorem d5_produce_81 : decode y5_produce.2.1 81 = .ok (.istore 4, 2) := by decide +kernel
theorem d5_produce_83 : decode y5_produce.2.1 83 = .ok (.iload 4, 2) := by decide +kernel
theorem d5_produce_85 : decode y5_produce.2.1 85 = .ok (.ifCond .ne 5, 3) := by decide +kernel
theorem d5_produce_88 : decode y5_produce.2.1 88 = .ok (.iload_n 3, 1) := by decide +kernel
theorem d5_produce_89 : decode y5_produce.2.1 89 = .ok (.ireturn, 1) := by decide +kernel
theorem d5_produce_90 : decode y5_produce.2.1 90 = .ok (.iinc 3 (-1), 3) := by decide +kernel
theorem d5_produce_93 : decode y5_produce.2.1 93 = .ok (.goto (-62), 3) := by decide +kernel
theorem d5_produce_96 : decode y5_produce.2.1 96 = .ok (.aload_n 0, 1) := by decide +kernel
theorem d5_produce_97 : decode y5_produce.2.1 97 = .ok (.iconst 1, 1) := by decide +kernel
theorem d5_produce_98 : decode y5_produce.2.1 98 = .ok (.putfield 63, 3) := by decide +kernel
theorem d5_produce_101 : decode y5_produce.2.1 101 = .ok (.aload_n 0, 1) := by decide +kernel
theorem d5_produce_102 : decode y5_produce.2.1 102 = .ok (.invokevirtual 90, 3) := by decide +kernel
theorem d5_produce_105 : decode y5_produce.2.1 105 = .ok (.aload_n 0, 1) := by decide +kernel
theorem d5_produce_106 : decode y5_produce.2.1 106 = .ok (.getfield 36, 3) := by decide +kernel
theorem d5_produce_109 : decode y5_produce.2.1 109 = .ok (.aload_n 1, 1) := by decide +kernel
theorem d5_produce_110 : decode y5_produce.2.1 110 = .ok (.getfield 93, 3) := by decide +kernel
theorem d5_produce_113 : decode y5_produce.2.1 113 = .ok (.invokevirtual 96, 3) := by decide +kernel
theorem d5_produce_116 : decode y5_produce.2.1 116 = .ok (.aload_n 0, 1) := by decide +kernel
theorem d5_produce_117 : decode y5_produce.2.1 117 = .ok (.iconst 0, 1) := by decide +kernel
theorem d5_produce_118 : decode y5_produce.2.1 118 = .ok (.iconst (-1), 1) := by decide +kernel
theorem d5_produce_119 : decode y5_produce.2.1 119 = .ok (.invokevirtual 99, 3) := by decide +kernel
theorem d5_produce_122 : decode y5_produce.2.1 122 = .ok (.pop, 1) := by decide +kernel
theorem d5_produce_123 : decode y5_produce.2.1 123 = .ok (.iconst 0, 1) := by decide +kernel
theorem d5_produce_124 : decode y5_produce.2.1 124 = .ok (.istore_n 3, 1) := by decide +kernel
theorem d5_produce_125 : decode y5_produce.2.1 125 = .ok (.iload_n 3, 1) := by decide +kernel
theorem d5_produce_126 : decode y5_produce.2.1 126 = .ok (.aload_n 1, 1) := by decide +kernel
theorem d5_produce_127 : decode y5_produce.2.1 127 = .ok (.getfield 73, 3) := by decide +kernel
theorem d5_produce_130 : decode y5_produce.2.1 130 = .ok (.if_icmp .ge 35, 3) := by decide +kernel
theorem d5_produce_133 : decode y5_produce.2.1 133 = .ok (.aload_n 0, 1) := by decide +kernel
theorem d5_produce_134 : decode y5_produce.2.1 134 = .ok (.getfield 16, 3) := by decide +kernel
theorem d5_produce_137 : decode y5_produce.2.1 137 = .ok (.iload_n 3, 1) := by decide +kernel
theorem d5_produce_138 : decode y5_produce.2.1 138 = .ok (.baload, 1) := by decide +kernel
theorem d5_produce_139 : decode y5_produce.2.1 139 = .ok (.ifCond .eq 20, 3) := by decide +kernel
theorem d5_produce_142 : decode y5_produce.2.1 142 = .ok (.aload_n 0, 1) := by decide +kernel
theorem d5_produce_143 : decode y5_produce.2.1 143 = .ok (.iload_n 3, 1) := by decide +kernel
theorem d5_produce_144 : decode y5_produce.2.1 144 = .ok (.invokevirtual 103, 3) := by decide +kernel
theorem d5_produce_147 : decode y5_produce.2.1 147 = .ok (.aload_n 0, 1) := by decide +kernel
theorem d5_produce_148 : decode y5_produce.2.1 148 = .ok (.iload_n 3, 1) := by decide +kernel
theorem d5_produce_149 : decode y5_produce.2.1 149 = .ok (.invokevirtual 83, 3) := by decide +kernel
theorem d5_produce_152 : decode y5_produce.2.1 152 = .ok (.pop, 1) := by decide +kernel
theorem d5_produce_153 : decode y5_produce.2.1 153 = .ok (.aload_n 0, 1) := by decide +kernel
theorem d5_produce_154 : decode y5_produce.2.1 154 = .ok (.iload_n 3, 1) := by decide +kernel
theorem d5_produce_155 : decode y5_produce.2.1 155 = .ok (.invokevirtual 87, 3) := by decide +kernel
theorem d5_produce_158 : decode y5_produce.2.1 158 = .ok (.pop, 1) := by decide +kernel
theorem d5_produce_159 : decode y5_produce.2.1 159 = .ok (.iinc 3 1, 3) := by decide +kernel
theorem d5_produce_162 : decode y5_produce.2.1 162 = .ok (.goto (-37), 3) := by decide +kernel
theorem d5_produce_165 : decode y5_produce.2.1 165 = .ok (.aload_n 0, 1) := by decide +kernel
theorem d5_produce_166 : decode y5_produce.2.1 166 = .ok (.getfield 67, 3) := by decide +kernel
theorem d5_produce_169 : decode y5_produce.2.1 169 = .ok (.ifCond .eq 8, 3) := by decide +kernel
theorem d5_produce_172 : decode y5_produce.2.1 172 = .ok (.bipush (-2), 2) := by decide +kernel
theorem d5_produce_174 : decode y5_produce.2.1 174 = .ok (.goto 7, 3) := by decide +kernel
theorem d5_produce_177 : decode y5_produce.2.1 177 = .ok (.aload_n 1, 1) := by decide +kernel
theorem d5_produce_178 : decode y5_produce.2.1 178 = .ok (.getfield 73, 3) := by decide +kernel
theorem d5_produce_181 : decode y5_produce.2.1 181 = .ok (.ireturn, 1) := by decide +kernel
theorem d5_findBounds_0 : decode y5_findBounds.2.1 0 = .ok (.iconst 0, 1) := by decide +kernel
theorem d5_findBounds_1 : decode y5_findBounds.2.1 1 = .ok (.istore_n 1, 1) := by decide +kernel
theorem d5_findBounds_2 : decode y5_findBounds.2.1 2 = .ok (.iload_n 1, 1) := by decide +kernel
theorem d5_findBounds_3 : decode y5_findBounds.2.1 3 = .ok (.aload_n 0, 1) := by decide +kernel
theorem d5_findBounds_4 : decode y5_findBounds.2.1 4 = .ok (.getfield 55, 3) := by decide +kernel
theorem d5_findBounds_7 : decode y5_findBounds.2.1 7 = .ok (.getfield 73, 3) := by decide +kernel
theorem d5_findBounds_10 : decode y5_findBounds.2.1 10 = .ok (.if_icmp .ge 16, 3) := by decide +kernel
theorem d5_findBounds_13 : decode y5_findBounds.2.1 13 = .ok (.aload_n 0, 1) := by decide +kernel
theorem d5_findBounds_14 : decode y5_findBounds.2.1 14 = .ok (.getfield 16, 3) := by decide +kernel
theorem d5_findBounds_17 : decode y5_findBounds.2.1 17 = .ok (.iload_n 1, 1) := by decide +kernel
theorem d5_findBounds_18 : decode y5_findBounds.2.1 18 = .ok (.iconst 0, 1) := by decide +kernel
theorem d5_findBounds_19 : decode y5_findBounds.2.1 19 = .ok (.bastore, 1) := by decide +kernel
theorem d5_findBounds_20 : decode y5_findBounds.2.1 20 = .ok (.iinc 1 1, 3) := by decide +kernel
theorem d5_findBounds_23 : decode y5_findBounds.2.1 23 = .ok (.goto (-21), 3) := by decide +kernel
theorem d5_findBounds_26 : decode y5_findBounds.2.1 26 = .ok (.aload_n 0, 1) := by decide +kernel
theorem d5_findBounds_27 : decode y5_findBounds.2.1 27 = .ok (.getfield 36, 3) := by decide +kernel
theorem d5_findBounds_30 : decode y5_findBounds.2.1 30 = .ok (.aload_n 0, 1) := by decide +kernel
theorem d5_findBounds_31 : decode y5_findBounds.2.1 31 = .ok (.getfield 55, 3) := by decide +kernel
theorem d5_findBounds_34 : decode y5_findBounds.2.1 34 = .ok (.getfield 93, 3) := by decide +kernel
theorem d5_findBounds_37 : decode y5_findBounds.2.1 37 = .ok (.invokevirtual 96, 3) := by decide +kernel
theorem d5_findBounds_40 : decode y5_findBounds.2.1 40 = .ok (.aload_n 0, 1) := by decide +kernel
theorem d5_findBounds_41 : decode y5_findBounds.2.1 41 = .ok (.getfield 36, 3) := by decide +kernel
theorem d5_findBounds_44 : decode y5_findBounds.2.1 44 = .ok (.invokevirtual 106, 3) := by decide +kernel
theorem d5_findBounds_47 : decode y5_findBounds.2.1 47 = .ok (.pop, 1) := by decide +kernel
theorem d5_findBounds_48 : decode y5_findBounds.2.1 48 = .ok (.aload_n 0, 1) := by decide +kernel
theorem d5_findBounds_49 : decode y5_findBounds.2.1 49 = .ok (.iconst 0, 1) := by decide +kernel
theorem d5_findBounds_50 : decode y5_findBounds.2.1 50 = .ok (.invokevirtual 110, 3) := by decide +kernel
theorem d5_findBounds_53 : decode y5_findBounds.2.1 53 = .ok (.iconst 0, 1) := by decide +kernel
theorem d5_findBounds_54 : decode y5_findBounds.2.1 54 = .ok (.istore_n 1, 1) := by decide +kernel
theorem d5_findBounds_55 : decode y5_findBounds.2.1 55 = .ok (.iload_n 1, 1) := by decide +kernel
theorem d5_findBounds_56 : decode y5_findBounds.2.1 56 = .ok (.aload_n 0, 1) := by decide +kernel
theorem d5_findBounds_57 : decode y5_findBounds.2.1 57 = .ok (.getfield 55, 3) := by decide +kernel
theorem d5_findBounds_60 : decode y5_findBounds.2.1 60 = .ok (.getfield 73, 3) := by decide +kernel
theorem d5_findBounds_63 : decode y5_findBounds.2.1 63 = .ok (.if_icmp .ge 103, 3) := by decide +kernel
theorem d5_findBounds_66 : decode y5_findBounds.2.1 66 = .ok (.aload_n 0, 1) := by decide +kernel
theorem d5_findBounds_67 : decode y5_findBounds.2.1 67 = .ok (.getfield 55, 3) := by decide +kernel
theorem d5_findBounds_70 : decode y5_findBounds.2.1 70 = .ok (.getfield 113, 3) := by decide +kernel
theorem d5_findBounds_73 : decode y5_findBounds.2.1 73 = .ok (.iload_n 1, 1) := by decide +kernel
theorem d5_findBounds_74 : decode y5_findBounds.2.1 74 = .ok (.aaload, 1) := by decide +kernel
theorem d5_findBounds_75 : decode y5_findBounds.2.1 75 = .ok (.astore_n 2, 1) := by decide +kernel
theorem d5_findBounds_76 : decode y5_findBounds.2.1 76 = .ok (.iconst 0, 1) := by decide +kernel
theorem d5_findBounds_77 : decode y5_findBounds.2.1 77 = .ok (.istore_n 3, 1) := by decide +kernel
theorem d5_findBounds_78 : decode y5_findBounds.2.1 78 = .ok (.aload_n 0, 1) := by decide +kernel
theorem d5_findBounds_79 : decode y5_findBounds.2.1 79 = .ok (.getfield 16, 3) := by decide +kernel
theorem d5_findBounds_82 : decode y5_findBounds.2.1 82 = .ok (.iload_n 1, 1) := by decide +kernel
theorem d5_findBounds_83 : decode y5_findBounds.2.1 83 = .ok (.baload, 1) := by decide +kernel
theorem d5_findBounds_84 : decode y5_findBounds.2.1 84 = .ok (.ifCond .eq 76, 3) := by decide +kernel
theorem d5_findBounds_87 : decode y5_findBounds.2.1 87 = .ok (.iload_n 3, 1) := by decide +kernel
theorem d5_findBounds_88 : decode y5_findBounds.2.1 88 = .ok (.aload_n 2, 1) := by decide +kernel
theorem d5_findBounds_89 : decode y5_findBounds.2.1 89 = .ok (.invokevirtual 117, 3) := by decide +kernel
theorem d5_findBounds_92 : decode y5_findBounds.2.1 92 = .ok (.if_icmp .ge 68, 3) := by decide +kernel
theorem d5_findBounds_95 : decode y5_findBounds.2.1 95 = .ok (.aload_n 0, 1) := by decide +kernel
theorem d5_findBounds_96 : decode y5_findBounds.2.1 96 = .ok (.getfield 36, 3) := by decide +kernel
theorem d5_findBounds_99 : decode y5_findBounds.2.1 99 = .ok (.aload_n 2, 1) := by decide +kernel
theorem d5_findBounds_100 : decode y5_findBounds.2.1 100 = .ok (.iload_n 3, 1) := by decide +kernel
theorem d5_findBounds_101 : decode y5_findBounds.2.1 101 = .ok (.aload_n 0, 1) := by decide +kernel
theorem d5_findBounds_102 : decode y5_findBounds.2.1 102 = .ok (.getfield 11, 3) := by decide +kernel
theorem d5_findBounds_105 : decode y5_findBounds.2.1 105 = .ok (.iload_n 1, 1) := by decide +kernel
theorem d5_findBounds_106 : decode y5_findBounds.2.1 106 = .ok (.aaload, 1) := by decide +kernel
theorem d5_findBounds_107 : decode y5_findBounds.2.1 107 = .ok (.invokevirtual 123, 3) := by decide +kernel
theorem d5_findBounds_110 : decode y5_findBounds.2.1 110 = .ok (.aload_n 0, 1) := by decide +kernel
theorem d5_findBounds_111 : decode y5_findBounds.2.1 111 = .ok (.getfield 36, 3) := by decide +kernel
theorem d5_findBounds_114 : decode y5_findBounds.2.1 114 = .ok (.invokevirtual 106, 3) := by decide +kernel
theorem d5_findBounds_117 : decode y5_findBounds.2.1 117 = .ok (.istore 4, 2) := by decide +kernel
theorem d5_findBounds_119 : decode y5_findBounds.2.1 119 = .ok (.aload_n 0, 1) := by decide +kernel
theorem d5_findBounds_120 : decode y5_findBounds.2.1 120 = .ok (.getfield 20, 3) := by decide +kernel
theorem d5_findBounds_123 : decode y5_findBounds.2.1 123 = .ok (.iconst 2, 1) := by decide +kernel
theorem d5_findBounds_124 : decode y5_findBounds.2.1 124 = .ok (.iload_n 1, 1) := by decide +kernel
theorem d5_findBounds_125 : decode y5_findBounds.2.1 125 = .ok (.imul, 1) := by decide +kernel
theorem d5_findBounds_126 : decode y5_findBounds.2.1 126 = .ok (.iload_n 3, 1) := by decide +kernel
theorem d5_findBounds_127 : decode y5_findBounds.2.1 127 = .ok (.iadd, 1) := by decide +kernel
theorem d5_findBounds_128 : decode y5_findBounds.2.1 128 = .ok (.iload 4, 2) := by decide +kernel
theorem d5_findBounds_130 : decode y5_findBounds.2.1 130 = .ok (.ifCond .ne 7, 3) := by decide +kernel
theorem d5_findBounds_133 : decode y5_findBounds.2.1 133 = .ok (.iconst 1, 1) := by decide +kernel
theorem d5_findBounds_134 : decode y5_findBounds.2.1 134 = .ok (.goto 4, 3) := by decide +kernel
theorem d5_findBounds_137 : decode y5_findBounds.2.1 137 = .ok (.iconst 0, 1) := by decide +kernel
theorem d5_findBounds_138 : decode y5_findBounds.2.1 138 = .ok (.bastore, 1) := by decide +kernel
theorem d5_findBounds_139 : decode y5_findBounds.2.1 139 = .ok (.iload 4, 2) := by decide +kernel
theorem d5_findBounds_141 : decode y5_findBounds.2.1 141 = .ok (.ifCond .eq 13, 3) := by decide +kernel
theorem d5_findBounds_144 : decode y5_findBounds.2.1 144 = .ok (.aload_n 0, 1) := by decide +kernel
theorem d5_findBounds_145 : decode y5_findBounds.2.1 145 = .ok (.aload_n 2, 1) := by decide +kernel
theorem d5_findBounds_146 : decode y5_findBounds.2.1 146 = .ok (.iload_n 1, 1) := by decide +kernel
theorem d5_findBounds_147 : decode y5_findBounds.2.1 147 = .ok (.iload_n 3, 1) := by decide +kernel
theorem d5_findBounds_148 : decode y5_findBounds.2.1 148 = .ok (.invokevirtual 127, 3) := by decide +kernel
theorem d5_findBounds_151 : decode y5_findBounds.2.1 151 = .ok (.invokevirtual 110, 3) := by decide +kernel
theorem d5_findBounds_154 : decode y5_findBounds.2.1 154 = .ok (.iinc 3 1, 3) := by decide +kernel
theorem d5_findBounds_157 : decode y5_findBounds.2.1 157 = .ok (.goto (-79), 3) := by decide +kernel
theorem d5_findBounds_160 : decode y5_findBounds.2.1 160 = .ok (.iinc 1 1, 3) := by decide +kernel
theorem d5_findBounds_163 : decode y5_findBounds.2.1 163 = .ok (.goto (-108), 3) := by decide +kernel
theorem d5_findBounds_166 : decode y5_findBounds.2.1 166 = .ok (.return_, 1) := by decide +kernel
theorem d6_takeBeginning_0 : decode y6_takeBeginning.2.1 0 = .ok (.aload_n 0, 1) := by decide +kernel
theorem d6_takeBeginning_1 : decode y6_takeBeginning.2.1 1 = .ok (.invokevirtual 71, 3) := by decide +kernel
theorem d6_takeBeginning_4 : decode y6_takeBeginning.2.1 4 = .ok (.iconst 0, 1) := by decide +kernel
theorem d6_takeBeginning_5 : decode y6_takeBeginning.2.1 5 = .ok (.istore_n 2, 1) := by decide +kernel
theorem d6_takeBeginning_6 : decode y6_takeBeginning.2.1 6 = .ok (.iload_n 2, 1) := by decide +kernel
theorem d6_takeBeginning_7 : decode y6_takeBeginning.2.1 7 = .ok (.bipush 18, 2) := by decide +kernel
theorem d6_takeBeginning_9 : decode y6_takeBeginning.2.1 9 = .ok (.if_icmp .ge 26, 3) := by decide +kernel
theorem d6_takeBeginning_12 : decode y6_takeBeginning.2.1 12 = .ok (.aload_n 0, 1) := by decide +kernel
theorem d6_takeBeginning_13 : decode y6_takeBeginning.2.1 13 = .ok (.getfield 33, 3) := by decide +kernel
theorem d6_takeBeginning_16 : decode y6_takeBeginning.2.1 16 = .ok (.iload_n 2, 1) := by decide +kernel
theorem d6_takeBeginning_17 : decode y6_takeBeginning.2.1 17 = .ok (.iload_n 1, 1) := by decide +kernel
theorem d6_takeBeginning_18 : decode y6_takeBeginning.2.1 18 = .ok (.invokevirtual 74, 3) := by decide +kernel
theorem d6_takeBeginning_21 : decode y6_takeBeginning.2.1 21 = .ok (.ifCond .eq 8, 3) := by decide +kernel
theorem d6_takeBeginning_24 : decode y6_takeBeginning.2.1 24 = .ok (.aload_n 0, 1) := by decide +kernel
theorem d6_takeBeginning_25 : decode y6_takeBeginning.2.1 25 = .ok (.iload_n 2, 1) := by decide +kernel
theorem d6_takeBeginning_26 : decode y6_takeBeginning.2.1 26 = .ok (.invokevirtual 78, 3) := by decide +kernel
theorem d6_takeBeginning_29 : decode y6_takeBeginning.2.1 29 = .ok (.iinc 2 1, 3) := by decide +kernel
theorem d6_takeBeginning_32 : decode y6_takeBeginning.2.1 32 = .ok (.goto (-26), 3) := by decide +kernel
theorem d6_takeBeginning_35 : decode y6_takeBeginning.2.1 35 = .ok (.return_, 1) := by decide +kernel
theorem d6_forget_0 : decode y6_forget.2.1 0 = .ok (.aload_n 0, 1) := by decide +kernel
theorem d6_forget_1 : decode y6_forget.2.1 1 = .ok (.iconst 0, 1) := by decide +kernel
theorem d6_forget_2 : decode y6_forget.2.1 2 = .ok (.putfield 43, 3) := by decide +kernel
theorem d6_forget_5 : decode y6_forget.2.1 5 = .ok (.iconst 0, 1) := by decide +kernel
theorem d6_forget_6 : decode y6_forget.2.1 6 = .ok (.istore_n 1, 1) := by decide +kernel
theorem d6_forget_7 : decode y6_forget.2.1 7 = .ok (.iload_n 1, 1) := by decide +kernel
theorem d6_forget_8 : decode y6_forget.2.1 8 = .ok (.bipush 10, 2) := by decide +kernel
theorem d6_forget_10 : decode y6_forget.2.1 10 = .ok (.if_icmp .ge 21, 3) := by decide +kernel
theorem d6_forget_13 : decode y6_forget.2.1 13 = .ok (.aload_n 0, 1) := by decide +kernel
theorem d6_forget_14 : decode y6_forget.2.1 14 = .ok (.getfield 27, 3) := by decide +kernel
theorem d6_forget_17 : decode y6_forget.2.1 17 = .ok (.iload_n 1, 1) := by decide +kernel
theorem d6_forget_18 : decode y6_forget.2.1 18 = .ok (.aaload, 1) := by decide +kernel
theorem d6_forget_19 : decode y6_forget.2.1 19 = .ok (.ldc2_w 47, 3) := by decide +kernel
theorem d6_forget_22 : decode y6_forget.2.1 22 = .ok (.invokestatic 49, 3) := by decide +kernel
theorem d6_forget_25 : decode y6_forget.2.1 25 = .ok (.iinc 1 1, 3) := by decide +kernel
theorem d6_forget_28 : decode y6_forget.2.1 28 = .ok (.goto (-21), 3) := by decide +kernel
theorem d6_forget_31 : decode y6_forget.2.1 31 = .ok (.return_, 1) := by decide +kernel
