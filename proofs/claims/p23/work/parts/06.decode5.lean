theorem dX10_digestOfModule_45 : decode cX10_digestOfModule 45 = .ok (.lload 4, 2) := by decide +kernel
theorem dX10_digestOfModule_47 : decode cX10_digestOfModule 47 = .ok (.ldc2_w 257, 3) := by decide +kernel
theorem dX10_digestOfModule_50 : decode cX10_digestOfModule 50 = .ok (.lmul, 1) := by decide +kernel
theorem dX10_digestOfModule_51 : decode cX10_digestOfModule 51 = .ok (.aload_n 0, 1) := by decide +kernel
theorem dX10_digestOfModule_52 : decode cX10_digestOfModule 52 = .ok (.iload_n 3, 1) := by decide +kernel
theorem dX10_digestOfModule_53 : decode cX10_digestOfModule 53 = .ok (.iload 6, 2) := by decide +kernel
theorem dX10_digestOfModule_55 : decode cX10_digestOfModule 55 = .ok (.invokevirtual 282, 3) := by decide +kernel
theorem dX10_digestOfModule_58 : decode cX10_digestOfModule 58 = .ok (.i2l, 1) := by decide +kernel
theorem dX10_digestOfModule_59 : decode cX10_digestOfModule 59 = .ok (.ladd, 1) := by decide +kernel
theorem dX10_digestOfModule_60 : decode cX10_digestOfModule 60 = .ok (.lstore 4, 2) := by decide +kernel
theorem dX10_digestOfModule_62 : decode cX10_digestOfModule 62 = .ok (.iinc 6 1, 3) := by decide +kernel
theorem dX10_digestOfModule_65 : decode cX10_digestOfModule 65 = .ok (.goto (-26), 3) := by decide +kernel
theorem dX10_digestOfModule_68 : decode cX10_digestOfModule 68 = .ok (.iconst 0, 1) := by decide +kernel
theorem dX10_digestOfModule_69 : decode cX10_digestOfModule 69 = .ok (.istore 6, 2) := by decide +kernel
theorem dX10_digestOfModule_71 : decode cX10_digestOfModule 71 = .ok (.iload 6, 2) := by decide +kernel
theorem dX10_digestOfModule_73 : decode cX10_digestOfModule 73 = .ok (.bipush 16, 2) := by decide +kernel
theorem dX10_digestOfModule_75 : decode cX10_digestOfModule 75 = .ok (.if_icmp .ge 20, 3) := by decide +kernel
theorem dX10_digestOfModule_78 : decode cX10_digestOfModule 78 = .ok (.aload_n 0, 1) := by decide +kernel
theorem dX10_digestOfModule_79 : decode cX10_digestOfModule 79 = .ok (.lload 4, 2) := by decide +kernel
theorem dX10_digestOfModule_81 : decode cX10_digestOfModule 81 = .ok (.iload_n 3, 1) := by decide +kernel
theorem dX10_digestOfModule_82 : decode cX10_digestOfModule 82 = .ok (.iload 6, 2) := by decide +kernel
theorem dX10_digestOfModule_84 : decode cX10_digestOfModule 84 = .ok (.invokevirtual 285, 3) := by decide +kernel
theorem dX10_digestOfModule_87 : decode cX10_digestOfModule 87 = .ok (.lstore 4, 2) := by decide +kernel
theorem dX10_digestOfModule_89 : decode cX10_digestOfModule 89 = .ok (.iinc 6 1, 3) := by decide +kernel
theorem dX10_digestOfModule_92 : decode cX10_digestOfModule 92 = .ok (.goto (-21), 3) := by decide +kernel
theorem dX10_digestOfModule_95 : decode cX10_digestOfModule 95 = .ok (.lload 4, 2) := by decide +kernel
theorem dX10_digestOfModule_97 : decode cX10_digestOfModule 97 = .ok (.lreturn, 1) := by decide +kernel
theorem dX10_digestOfName_0 : decode cX10_digestOfName 0 = .ok (.lload_n 1, 1) := by decide +kernel
theorem dX10_digestOfName_1 : decode cX10_digestOfName 1 = .ok (.lstore 5, 2) := by decide +kernel
theorem dX10_digestOfName_3 : decode cX10_digestOfName 3 = .ok (.iconst 0, 1) := by decide +kernel
theorem dX10_digestOfName_4 : decode cX10_digestOfName 4 = .ok (.istore 7, 2) := by decide +kernel
theorem dX10_digestOfName_6 : decode cX10_digestOfName 6 = .ok (.iload 7, 2) := by decide +kernel
theorem dX10_digestOfName_8 : decode cX10_digestOfName 8 = .ok (.iconst 1, 1) := by decide +kernel
theorem dX10_digestOfName_9 : decode cX10_digestOfName 9 = .ok (.if_icmp .gt 28, 3) := by decide +kernel
theorem dX10_digestOfName_12 : decode cX10_digestOfName 12 = .ok (.lload 5, 2) := by decide +kernel
theorem dX10_digestOfName_14 : decode cX10_digestOfName 14 = .ok (.ldc2_w 257, 3) := by decide +kernel
theorem dX10_digestOfName_17 : decode cX10_digestOfName 17 = .ok (.lmul, 1) := by decide +kernel
theorem dX10_digestOfName_18 : decode cX10_digestOfName 18 = .ok (.aload_n 0, 1) := by decide +kernel
theorem dX10_digestOfName_19 : decode cX10_digestOfName 19 = .ok (.iload_n 3, 1) := by decide +kernel
theorem dX10_digestOfName_20 : decode cX10_digestOfName 20 = .ok (.iload 4, 2) := by decide +kernel
theorem dX10_digestOfName_22 : decode cX10_digestOfName 22 = .ok (.iload 7, 2) := by decide +kernel
theorem dX10_digestOfName_24 : decode cX10_digestOfName 24 = .ok (.invokevirtual 289, 3) := by decide +kernel
theorem dX10_digestOfName_27 : decode cX10_digestOfName 27 = .ok (.i2l, 1) := by decide +kernel
theorem dX10_digestOfName_28 : decode cX10_digestOfName 28 = .ok (.ladd, 1) := by decide +kernel
theorem dX10_digestOfName_29 : decode cX10_digestOfName 29 = .ok (.lstore 5, 2) := by decide +kernel
theorem dX10_digestOfName_31 : decode cX10_digestOfName 31 = .ok (.iinc 7 1, 3) := by decide +kernel
theorem dX10_digestOfName_34 : decode cX10_digestOfName 34 = .ok (.goto (-28), 3) := by decide +kernel
theorem dX10_digestOfName_37 : decode cX10_digestOfName 37 = .ok (.iconst 0, 1) := by decide +kernel
theorem dX10_digestOfName_38 : decode cX10_digestOfName 38 = .ok (.istore 7, 2) := by decide +kernel
theorem dX10_digestOfName_40 : decode cX10_digestOfName 40 = .ok (.iload 7, 2) := by decide +kernel
theorem dX10_digestOfName_42 : decode cX10_digestOfName 42 = .ok (.iconst 5, 1) := by decide +kernel
theorem dX10_digestOfName_43 : decode cX10_digestOfName 43 = .ok (.if_icmp .gt 28, 3) := by decide +kernel
theorem dX10_digestOfName_46 : decode cX10_digestOfName 46 = .ok (.lload 5, 2) := by decide +kernel
theorem dX10_digestOfName_48 : decode cX10_digestOfName 48 = .ok (.ldc2_w 257, 3) := by decide +kernel
theorem dX10_digestOfName_51 : decode cX10_digestOfName 51 = .ok (.lmul, 1) := by decide +kernel
theorem dX10_digestOfName_52 : decode cX10_digestOfName 52 = .ok (.aload_n 0, 1) := by decide +kernel
theorem dX10_digestOfName_53 : decode cX10_digestOfName 53 = .ok (.iload_n 3, 1) := by decide +kernel
theorem dX10_digestOfName_54 : decode cX10_digestOfName 54 = .ok (.iload 4, 2) := by decide +kernel
theorem dX10_digestOfName_56 : decode cX10_digestOfName 56 = .ok (.iload 7, 2) := by decide +kernel
theorem dX10_digestOfName_58 : decode cX10_digestOfName 58 = .ok (.invokevirtual 292, 3) := by decide +kernel
theorem dX10_digestOfName_61 : decode cX10_digestOfName 61 = .ok (.i2l, 1) := by decide +kernel
theorem dX10_digestOfName_62 : decode cX10_digestOfName 62 = .ok (.ladd, 1) := by decide +kernel
theorem dX10_digestOfName_63 : decode cX10_digestOfName 63 = .ok (.lstore 5, 2) := by decide +kernel
theorem dX10_digestOfName_65 : decode cX10_digestOfName 65 = .ok (.iinc 7 1, 3) := by decide +kernel
theorem dX10_digestOfName_68 : decode cX10_digestOfName 68 = .ok (.goto (-28), 3) := by decide +kernel
theorem dX10_digestOfName_71 : decode cX10_digestOfName 71 = .ok (.iconst 0, 1) := by decide +kernel
theorem dX10_digestOfName_72 : decode cX10_digestOfName 72 = .ok (.istore 7, 2) := by decide +kernel
theorem dX10_digestOfName_74 : decode cX10_digestOfName 74 = .ok (.iload 7, 2) := by decide +kernel
theorem dX10_digestOfName_76 : decode cX10_digestOfName 76 = .ok (.iconst 5, 1) := by decide +kernel
theorem dX10_digestOfName_77 : decode cX10_digestOfName 77 = .ok (.if_icmp .gt 28, 3) := by decide +kernel
theorem dX10_digestOfName_80 : decode cX10_digestOfName 80 = .ok (.lload 5, 2) := by decide +kernel
theorem dX10_digestOfName_82 : decode cX10_digestOfName 82 = .ok (.ldc2_w 257, 3) := by decide +kernel
theorem dX10_digestOfName_85 : decode cX10_digestOfName 85 = .ok (.lmul, 1) := by decide +kernel
theorem dX10_digestOfName_86 : decode cX10_digestOfName 86 = .ok (.aload_n 0, 1) := by decide +kernel
theorem dX10_digestOfName_87 : decode cX10_digestOfName 87 = .ok (.iload_n 3, 1) := by decide +kernel
theorem dX10_digestOfName_88 : decode cX10_digestOfName 88 = .ok (.iload 4, 2) := by decide +kernel
theorem dX10_digestOfName_90 : decode cX10_digestOfName 90 = .ok (.iload 7, 2) := by decide +kernel
theorem dX10_digestOfName_92 : decode cX10_digestOfName 92 = .ok (.invokevirtual 294, 3) := by decide +kernel
theorem dX10_digestOfName_95 : decode cX10_digestOfName 95 = .ok (.i2l, 1) := by decide +kernel
theorem dX10_digestOfName_96 : decode cX10_digestOfName 96 = .ok (.ladd, 1) := by decide +kernel
theorem dX10_digestOfName_97 : decode cX10_digestOfName 97 = .ok (.lstore 5, 2) := by decide +kernel
theorem dX10_digestOfName_99 : decode cX10_digestOfName 99 = .ok (.iinc 7 1, 3) := by decide +kernel
theorem dX10_digestOfName_102 : decode cX10_digestOfName 102 = .ok (.goto (-28), 3) := by decide +kernel
theorem dX10_digestOfName_105 : decode cX10_digestOfName 105 = .ok (.lload 5, 2) := by decide +kernel
theorem dX10_digestOfName_107 : decode cX10_digestOfName 107 = .ok (.ldc2_w 257, 3) := by decide +kernel
theorem dX10_digestOfName_110 : decode cX10_digestOfName 110 = .ok (.lmul, 1) := by decide +kernel
theorem dX10_digestOfName_111 : decode cX10_digestOfName 111 = .ok (.aload_n 0, 1) := by decide +kernel
theorem dX10_digestOfName_112 : decode cX10_digestOfName 112 = .ok (.iload_n 3, 1) := by decide +kernel
theorem dX10_digestOfName_113 : decode cX10_digestOfName 113 = .ok (.iload 4, 2) := by decide +kernel
theorem dX10_digestOfName_115 : decode cX10_digestOfName 115 = .ok (.invokevirtual 297, 3) := by decide +kernel
theorem dX10_digestOfName_118 : decode cX10_digestOfName 118 = .ok (.i2l, 1) := by decide +kernel
theorem dX10_digestOfName_119 : decode cX10_digestOfName 119 = .ok (.ladd, 1) := by decide +kernel
theorem dX10_digestOfName_120 : decode cX10_digestOfName 120 = .ok (.lreturn, 1) := by decide +kernel
theorem dX10_checkModule_0 : decode cX10_checkModule 0 = .ok (.iload_n 1, 1) := by decide +kernel
theorem dX10_checkModule_1 : decode cX10_checkModule 1 = .ok (.ifCond .lt 14, 3) := by decide +kernel
theorem dX10_checkModule_4 : decode cX10_checkModule 4 = .ok (.iload_n 1, 1) := by decide +kernel
theorem dX10_checkModule_5 : decode cX10_checkModule 5 = .ok (.aload_n 0, 1) := by decide +kernel
theorem dX10_checkModule_6 : decode cX10_checkModule 6 = .ok (.getfield 12, 3) := by decide +kernel
theorem dX10_checkModule_9 : decode cX10_checkModule 9 = .ok (.getfield 54, 3) := by decide +kernel
theorem dX10_checkModule_12 : decode cX10_checkModule 12 = .ok (.if_icmp .lt 14, 3) := by decide +kernel
theorem dX10_checkModule_15 : decode cX10_checkModule 15 = .ok (.new 116, 3) := by decide +kernel
theorem dX10_checkModule_18 : decode cX10_checkModule 18 = .ok (.dup, 1) := by decide +kernel
theorem dX10_checkModule_19 : decode cX10_checkModule 19 = .ok (.ldc_w 300, 3) := by decide +kernel
theorem dX10_checkModule_22 : decode cX10_checkModule 22 = .ok (.invokespecial 120, 3) := by decide +kernel
theorem dX10_checkModule_25 : decode cX10_checkModule 25 = .ok (.athrow, 1) := by decide +kernel
theorem dX10_checkModule_26 : decode cX10_checkModule 26 = .ok (.return_, 1) := by decide +kernel
theorem dX10_checkWithin_0 : decode cX10_checkWithin 0 = .ok (.iload_n 0, 1) := by decide +kernel
theorem dX10_checkWithin_1 : decode cX10_checkWithin 1 = .ok (.iload_n 1, 1) := by decide +kernel
theorem dX10_checkWithin_2 : decode cX10_checkWithin 2 = .ok (.if_icmp .lt 8, 3) := by decide +kernel
theorem dX10_checkWithin_5 : decode cX10_checkWithin 5 = .ok (.iload_n 0, 1) := by decide +kernel
theorem dX10_checkWithin_6 : decode cX10_checkWithin 6 = .ok (.iload_n 2, 1) := by decide +kernel
theorem dX10_checkWithin_7 : decode cX10_checkWithin 7 = .ok (.if_icmp .le 14, 3) := by decide +kernel
theorem dX10_checkWithin_10 : decode cX10_checkWithin 10 = .ok (.new 95, 3) := by decide +kernel
theorem dX10_checkWithin_13 : decode cX10_checkWithin 13 = .ok (.dup, 1) := by decide +kernel
theorem dX10_checkWithin_14 : decode cX10_checkWithin 14 = .ok (.ldc_w 302, 3) := by decide +kernel
theorem dX10_checkWithin_17 : decode cX10_checkWithin 17 = .ok (.invokespecial 99, 3) := by decide +kernel
theorem dX10_checkWithin_20 : decode cX10_checkWithin 20 = .ok (.athrow, 1) := by decide +kernel
theorem dX10_checkWithin_21 : decode cX10_checkWithin 21 = .ok (.return_, 1) := by decide +kernel
theorem dX10_settle_0 : decode cX10_settle 0 = .ok (.aload_n 0, 1) := by decide +kernel
theorem dX10_settle_1 : decode cX10_settle 1 = .ok (.getfield 21, 3) := by decide +kernel
theorem dX10_settle_4 : decode cX10_settle 4 = .ok (.invokevirtual 304, 3) := by decide +kernel
theorem dX10_settle_7 : decode cX10_settle 7 = .ok (.aload_n 0, 1) := by decide +kernel
theorem dX10_settle_8 : decode cX10_settle 8 = .ok (.getfield 28, 3) := by decide +kernel
theorem dX10_settle_11 : decode cX10_settle 11 = .ok (.invokevirtual 305, 3) := by decide +kernel
theorem dX10_settle_14 : decode cX10_settle 14 = .ok (.return_, 1) := by decide +kernel
theorem dX10_clear_0 : decode cX10_clear 0 = .ok (.iconst 0, 1) := by decide +kernel
theorem dX10_clear_1 : decode cX10_clear 1 = .ok (.istore_n 1, 1) := by decide +kernel
theorem dX10_clear_2 : decode cX10_clear 2 = .ok (.iload_n 1, 1) := by decide +kernel
theorem dX10_clear_3 : decode cX10_clear 3 = .ok (.aload_n 0, 1) := by decide +kernel
theorem dX10_clear_4 : decode cX10_clear 4 = .ok (.arraylength, 1) := by decide +kernel
theorem dX10_clear_5 : decode cX10_clear 5 = .ok (.if_icmp .ge 13, 3) := by decide +kernel
theorem dX10_clear_8 : decode cX10_clear 8 = .ok (.aload_n 0, 1) := by decide +kernel
theorem dX10_clear_9 : decode cX10_clear 9 = .ok (.iload_n 1, 1) := by decide +kernel
theorem dX10_clear_10 : decode cX10_clear 10 = .ok (.iconst 0, 1) := by decide +kernel
theorem dX10_clear_11 : decode cX10_clear 11 = .ok (.bastore, 1) := by decide +kernel
theorem dX10_clear_12 : decode cX10_clear 12 = .ok (.iinc 1 1, 3) := by decide +kernel
theorem dX10_clear_15 : decode cX10_clear 15 = .ok (.goto (-13), 3) := by decide +kernel
theorem dX10_clear_18 : decode cX10_clear 18 = .ok (.return_, 1) := by decide +kernel
theorem dX10_partOf_0 : decode cX10_partOf 0 = .ok (.iload_n 0, 1) := by decide +kernel
theorem dX10_partOf_1 : decode cX10_partOf 1 = .ok (.ifCond .ge 5, 3) := by decide +kernel
theorem dX10_partOf_4 : decode cX10_partOf 4 = .ok (.iload_n 0, 1) := by decide +kernel
theorem dX10_partOf_5 : decode cX10_partOf 5 = .ok (.ireturn, 1) := by decide +kernel
theorem dX10_partOf_6 : decode cX10_partOf 6 = .ok (.iload_n 1, 1) := by decide +kernel
theorem dX10_partOf_7 : decode cX10_partOf 7 = .ok (.ifCond .ne 10, 3) := by decide +kernel
theorem dX10_partOf_10 : decode cX10_partOf 10 = .ok (.iload_n 0, 1) := by decide +kernel
theorem dX10_partOf_11 : decode cX10_partOf 11 = .ok (.bipush 16, 2) := by decide +kernel
theorem dX10_partOf_13 : decode cX10_partOf 13 = .ok (.idiv, 1) := by decide +kernel
theorem dX10_partOf_14 : decode cX10_partOf 14 = .ok (.goto 7, 3) := by decide +kernel
theorem dX10_partOf_17 : decode cX10_partOf 17 = .ok (.iload_n 0, 1) := by decide +kernel
theorem dX10_partOf_18 : decode cX10_partOf 18 = .ok (.bipush 16, 2) := by decide +kernel
theorem dX10_partOf_20 : decode cX10_partOf 20 = .ok (.irem, 1) := by decide +kernel
theorem dX10_partOf_21 : decode cX10_partOf 21 = .ok (.ireturn, 1) := by decide +kernel
theorem dX10_countRenewal_0 : decode cX10_countRenewal 0 = .ok (.iload_n 2, 1) := by decide +kernel
theorem dX10_countRenewal_1 : decode cX10_countRenewal 1 = .ok (.ifCond .eq 16, 3) := by decide +kernel
theorem dX10_countRenewal_4 : decode cX10_countRenewal 4 = .ok (.aload_n 0, 1) := by decide +kernel
theorem dX10_countRenewal_5 : decode cX10_countRenewal 5 = .ok (.dup, 1) := by decide +kernel
theorem dX10_countRenewal_6 : decode cX10_countRenewal 6 = .ok (.getfield 238, 3) := by decide +kernel
theorem dX10_countRenewal_9 : decode cX10_countRenewal 9 = .ok (.iconst 1, 1) := by decide +kernel
theorem dX10_countRenewal_10 : decode cX10_countRenewal 10 = .ok (.iadd, 1) := by decide +kernel
theorem dX10_countRenewal_11 : decode cX10_countRenewal 11 = .ok (.putfield 238, 3) := by decide +kernel
theorem dX10_countRenewal_14 : decode cX10_countRenewal 14 = .ok (.goto 13, 3) := by decide +kernel
theorem dX10_countRenewal_17 : decode cX10_countRenewal 17 = .ok (.aload_n 0, 1) := by decide +kernel
theorem dX10_countRenewal_18 : decode cX10_countRenewal 18 = .ok (.dup, 1) := by decide +kernel
theorem dX10_countRenewal_19 : decode cX10_countRenewal 19 = .ok (.getfield 235, 3) := by decide +kernel
theorem dX10_countRenewal_22 : decode cX10_countRenewal 22 = .ok (.iconst 1, 1) := by decide +kernel
theorem dX10_countRenewal_23 : decode cX10_countRenewal 23 = .ok (.iadd, 1) := by decide +kernel
theorem dX10_countRenewal_24 : decode cX10_countRenewal 24 = .ok (.putfield 235, 3) := by decide +kernel
theorem dX10_countRenewal_27 : decode cX10_countRenewal 27 = .ok (.iload_n 2, 1) := by decide +kernel
theorem dX10_countRenewal_28 : decode cX10_countRenewal 28 = .ok (.ifCond .eq 10, 3) := by decide +kernel
theorem dX10_countRenewal_31 : decode cX10_countRenewal 31 = .ok (.aload_n 0, 1) := by decide +kernel
theorem dX10_countRenewal_32 : decode cX10_countRenewal 32 = .ok (.getfield 51, 3) := by decide +kernel
theorem dX10_countRenewal_35 : decode cX10_countRenewal 35 = .ok (.goto 7, 3) := by decide +kernel
theorem dX10_countRenewal_38 : decode cX10_countRenewal 38 = .ok (.aload_n 0, 1) := by decide +kernel
theorem dX10_countRenewal_39 : decode cX10_countRenewal 39 = .ok (.getfield 48, 3) := by decide +kernel
theorem dX10_countRenewal_42 : decode cX10_countRenewal 42 = .ok (.astore_n 3, 1) := by decide +kernel
theorem dX10_countRenewal_43 : decode cX10_countRenewal 43 = .ok (.iconst 0, 1) := by decide +kernel
theorem dX10_countRenewal_44 : decode cX10_countRenewal 44 = .ok (.istore 4, 2) := by decide +kernel
theorem dX10_countRenewal_46 : decode cX10_countRenewal 46 = .ok (.iload 4, 2) := by decide +kernel
theorem dX10_countRenewal_48 : decode cX10_countRenewal 48 = .ok (.bipush 8, 2) := by decide +kernel
theorem dX10_countRenewal_50 : decode cX10_countRenewal 50 = .ok (.if_icmp .ge 26, 3) := by decide +kernel
theorem dX10_countRenewal_53 : decode cX10_countRenewal 53 = .ok (.iload_n 1, 1) := by decide +kernel
theorem dX10_countRenewal_54 : decode cX10_countRenewal 54 = .ok (.iload 4, 2) := by decide +kernel
theorem dX10_countRenewal_56 : decode cX10_countRenewal 56 = .ok (.invokestatic 306, 3) := by decide +kernel
theorem dX10_countRenewal_59 : decode cX10_countRenewal 59 = .ok (.ifCond .eq 11, 3) := by decide +kernel
theorem dX10_countRenewal_62 : decode cX10_countRenewal 62 = .ok (.aload_n 3, 1) := by decide +kernel
theorem dX10_countRenewal_63 : decode cX10_countRenewal 63 = .ok (.iload 4, 2) := by decide +kernel
theorem dX10_countRenewal_65 : decode cX10_countRenewal 65 = .ok (.dup2, 1) := by decide +kernel
theorem dX10_countRenewal_66 : decode cX10_countRenewal 66 = .ok (.iaload, 1) := by decide +kernel
theorem dX10_countRenewal_67 : decode cX10_countRenewal 67 = .ok (.iconst 1, 1) := by decide +kernel
theorem dX10_countRenewal_68 : decode cX10_countRenewal 68 = .ok (.iadd, 1) := by decide +kernel
theorem dX10_countRenewal_69 : decode cX10_countRenewal 69 = .ok (.iastore, 1) := by decide +kernel
theorem dX10_countRenewal_70 : decode cX10_countRenewal 70 = .ok (.iinc 4 1, 3) := by decide +kernel
theorem dX10_countRenewal_73 : decode cX10_countRenewal 73 = .ok (.goto (-27), 3) := by decide +kernel
theorem dX10_countRenewal_76 : decode cX10_countRenewal 76 = .ok (.return_, 1) := by decide +kernel
theorem dX10_slotOfFault_0 : decode cX10_slotOfFault 0 = .ok (.iconst 0, 1) := by decide +kernel
theorem dX10_slotOfFault_1 : decode cX10_slotOfFault 1 = .ok (.istore_n 2, 1) := by decide +kernel
theorem dX10_slotOfFault_2 : decode cX10_slotOfFault 2 = .ok (.iconst 0, 1) := by decide +kernel
theorem dX10_slotOfFault_3 : decode cX10_slotOfFault 3 = .ok (.istore_n 3, 1) := by decide +kernel
theorem dX10_slotOfFault_4 : decode cX10_slotOfFault 4 = .ok (.iload_n 3, 1) := by decide +kernel
theorem dX10_slotOfFault_5 : decode cX10_slotOfFault 5 = .ok (.sipush 128, 3) := by decide +kernel
theorem dX10_slotOfFault_8 : decode cX10_slotOfFault 8 = .ok (.if_icmp .ge 30, 3) := by decide +kernel
theorem dX10_slotOfFault_11 : decode cX10_slotOfFault 11 = .ok (.aload_n 0, 1) := by decide +kernel
theorem dX10_slotOfFault_12 : decode cX10_slotOfFault 12 = .ok (.getfield 37, 3) := by decide +kernel
theorem dX10_slotOfFault_15 : decode cX10_slotOfFault 15 = .ok (.iload_n 3, 1) := by decide +kernel
theorem dX10_slotOfFault_16 : decode cX10_slotOfFault 16 = .ok (.invokevirtual 310, 3) := by decide +kernel
theorem dX10_slotOfFault_19 : decode cX10_slotOfFault 19 = .ok (.ifCond .eq 13, 3) := by decide +kernel
theorem dX10_slotOfFault_22 : decode cX10_slotOfFault 22 = .ok (.iload_n 2, 1) := by decide +kernel
theorem dX10_slotOfFault_23 : decode cX10_slotOfFault 23 = .ok (.iload_n 1, 1) := by decide +kernel
theorem dX10_slotOfFault_24 : decode cX10_slotOfFault 24 = .ok (.if_icmp .ne 5, 3) := by decide +kernel
theorem dX10_slotOfFault_27 : decode cX10_slotOfFault 27 = .ok (.iload_n 3, 1) := by decide +kernel
theorem dX10_slotOfFault_28 : decode cX10_slotOfFault 28 = .ok (.ireturn, 1) := by decide +kernel
theorem dX10_slotOfFault_29 : decode cX10_slotOfFault 29 = .ok (.iinc 2 1, 3) := by decide +kernel
theorem dX10_slotOfFault_32 : decode cX10_slotOfFault 32 = .ok (.iinc 3 1, 3) := by decide +kernel
theorem dX10_slotOfFault_35 : decode cX10_slotOfFault 35 = .ok (.goto (-31), 3) := by decide +kernel
theorem dX10_slotOfFault_38 : decode cX10_slotOfFault 38 = .ok (.iconst (-1), 1) := by decide +kernel
theorem dX10_slotOfFault_39 : decode cX10_slotOfFault 39 = .ok (.ireturn, 1) := by decide +kernel
theorem dX10_valueOf_0 : decode cX10_valueOf 0 = .ok (.iconst 0, 1) := by decide +kernel
theorem dX10_valueOf_1 : decode cX10_valueOf 1 = .ok (.istore_n 2, 1) := by decide +kernel
theorem dX10_valueOf_2 : decode cX10_valueOf 2 = .ok (.iconst 1, 1) := by decide +kernel
theorem dX10_valueOf_3 : decode cX10_valueOf 3 = .ok (.istore_n 3, 1) := by decide +kernel
theorem dX10_valueOf_4 : decode cX10_valueOf 4 = .ok (.aload_n 0, 1) := by decide +kernel
theorem dX10_valueOf_5 : decode cX10_valueOf 5 = .ok (.getfield 44, 3) := by decide +kernel
theorem dX10_valueOf_8 : decode cX10_valueOf 8 = .ok (.iconst 0, 1) := by decide +kernel
theorem dX10_valueOf_9 : decode cX10_valueOf 9 = .ok (.iload_n 1, 1) := by decide +kernel
theorem dX10_valueOf_10 : decode cX10_valueOf 10 = .ok (.iastore, 1) := by decide +kernel
theorem dX10_valueOf_11 : decode cX10_valueOf 11 = .ok (.iconst 0, 1) := by decide +kernel
theorem dX10_valueOf_12 : decode cX10_valueOf 12 = .ok (.istore 4, 2) := by decide +kernel
theorem dX10_valueOf_14 : decode cX10_valueOf 14 = .ok (.iload 4, 2) := by decide +kernel
theorem dX10_valueOf_16 : decode cX10_valueOf 16 = .ok (.sipush 400, 3) := by decide +kernel
theorem dX10_valueOf_19 : decode cX10_valueOf 19 = .ok (.if_icmp .gt 120, 3) := by decide +kernel
theorem dX10_valueOf_22 : decode cX10_valueOf 22 = .ok (.iload_n 3, 1) := by decide +kernel
theorem dX10_valueOf_23 : decode cX10_valueOf 23 = .ok (.ifCond .le 116, 3) := by decide +kernel
theorem dX10_valueOf_26 : decode cX10_valueOf 26 = .ok (.iinc 3 (-1), 3) := by decide +kernel
theorem dX10_valueOf_29 : decode cX10_valueOf 29 = .ok (.aload_n 0, 1) := by decide +kernel
theorem dX10_valueOf_30 : decode cX10_valueOf 30 = .ok (.getfield 44, 3) := by decide +kernel
theorem dX10_valueOf_33 : decode cX10_valueOf 33 = .ok (.iload_n 3, 1) := by decide +kernel
theorem dX10_valueOf_34 : decode cX10_valueOf 34 = .ok (.iaload, 1) := by decide +kernel
theorem dX10_valueOf_35 : decode cX10_valueOf 35 = .ok (.sipush 128, 3) := by decide +kernel
theorem dX10_valueOf_38 : decode cX10_valueOf 38 = .ok (.idiv, 1) := by decide +kernel
theorem dX10_valueOf_39 : decode cX10_valueOf 39 = .ok (.istore 5, 2) := by decide +kernel
theorem dX10_valueOf_41 : decode cX10_valueOf 41 = .ok (.aload_n 0, 1) := by decide +kernel
theorem dX10_valueOf_42 : decode cX10_valueOf 42 = .ok (.getfield 44, 3) := by decide +kernel
theorem dX10_valueOf_45 : decode cX10_valueOf 45 = .ok (.iload_n 3, 1) := by decide +kernel
theorem dX10_valueOf_46 : decode cX10_valueOf 46 = .ok (.iaload, 1) := by decide +kernel
theorem dX10_valueOf_47 : decode cX10_valueOf 47 = .ok (.sipush 128, 3) := by decide +kernel
theorem dX10_valueOf_50 : decode cX10_valueOf 50 = .ok (.irem, 1) := by decide +kernel
theorem dX10_valueOf_51 : decode cX10_valueOf 51 = .ok (.istore 6, 2) := by decide +kernel
theorem dX10_valueOf_53 : decode cX10_valueOf 53 = .ok (.aload_n 0, 1) := by decide +kernel
theorem dX10_valueOf_54 : decode cX10_valueOf 54 = .ok (.getfield 37, 3) := by decide +kernel
theorem dX10_valueOf_57 : decode cX10_valueOf 57 = .ok (.iload 6, 2) := by decide +kernel
theorem dX10_valueOf_59 : decode cX10_valueOf 59 = .ok (.invokevirtual 152, 3) := by decide +kernel
theorem dX10_valueOf_62 : decode cX10_valueOf 62 = .ok (.astore 7, 2) := by decide +kernel
theorem dX10_valueOf_64 : decode cX10_valueOf 64 = .ok (.iload 5, 2) := by decide +kernel
theorem dX10_valueOf_66 : decode cX10_valueOf 66 = .ok (.bipush 30, 2) := by decide +kernel
theorem dX10_valueOf_68 : decode cX10_valueOf 68 = .ok (.if_icmp .gt 14, 3) := by decide +kernel
theorem dX10_valueOf_71 : decode cX10_valueOf 71 = .ok (.aload 7, 2) := by decide +kernel
theorem dX10_valueOf_73 : decode cX10_valueOf 73 = .ok (.getfield 195, 3) := by decide +kernel
theorem dX10_valueOf_76 : decode cX10_valueOf 76 = .ok (.iload 6, 2) := by decide +kernel
theorem dX10_valueOf_78 : decode cX10_valueOf 78 = .ok (.iaload, 1) := by decide +kernel
theorem dX10_valueOf_79 : decode cX10_valueOf 79 = .ok (.ifCond .eq 7, 3) := by decide +kernel
theorem dX10_valueOf_82 : decode cX10_valueOf 82 = .ok (.ldc_w 313, 3) := by decide +kernel
theorem dX10_valueOf_85 : decode cX10_valueOf 85 = .ok (.ireturn, 1) := by decide +kernel
theorem dX10_valueOf_86 : decode cX10_valueOf 86 = .ok (.iload_n 2, 1) := by decide +kernel
theorem dX10_valueOf_87 : decode cX10_valueOf 87 = .ok (.aload 7, 2) := by decide +kernel
theorem dX10_valueOf_89 : decode cX10_valueOf 89 = .ok (.getfield 198, 3) := by decide +kernel
theorem dX10_valueOf_92 : decode cX10_valueOf 92 = .ok (.iload 6, 2) := by decide +kernel
theorem dX10_valueOf_94 : decode cX10_valueOf 94 = .ok (.iaload, 1) := by decide +kernel
theorem dX10_valueOf_95 : decode cX10_valueOf 95 = .ok (.iadd, 1) := by decide +kernel
theorem dX10_valueOf_96 : decode cX10_valueOf 96 = .ok (.istore_n 2, 1) := by decide +kernel
theorem dX10_valueOf_97 : decode cX10_valueOf 97 = .ok (.aload_n 0, 1) := by decide +kernel
theorem dX10_valueOf_98 : decode cX10_valueOf 98 = .ok (.iload_n 3, 1) := by decide +kernel
theorem dX10_valueOf_99 : decode cX10_valueOf 99 = .ok (.aload 7, 2) := by decide +kernel
theorem dX10_valueOf_101 : decode cX10_valueOf 101 = .ok (.getfield 314, 3) := by decide +kernel
theorem dX10_valueOf_104 : decode cX10_valueOf 104 = .ok (.iload 6, 2) := by decide +kernel
theorem dX10_valueOf_106 : decode cX10_valueOf 106 = .ok (.iaload, 1) := by decide +kernel
theorem dX10_valueOf_107 : decode cX10_valueOf 107 = .ok (.iload 5, 2) := by decide +kernel
theorem dX10_valueOf_109 : decode cX10_valueOf 109 = .ok (.iconst 1, 1) := by decide +kernel
theorem dX10_valueOf_110 : decode cX10_valueOf 110 = .ok (.iadd, 1) := by decide +kernel
theorem dX10_valueOf_111 : decode cX10_valueOf 111 = .ok (.invokevirtual 317, 3) := by decide +kernel
theorem dX10_valueOf_114 : decode cX10_valueOf 114 = .ok (.istore_n 3, 1) := by decide +kernel
theorem dX10_valueOf_115 : decode cX10_valueOf 115 = .ok (.aload_n 0, 1) := by decide +kernel
theorem dX10_valueOf_116 : decode cX10_valueOf 116 = .ok (.iload_n 3, 1) := by decide +kernel
theorem dX10_valueOf_117 : decode cX10_valueOf 117 = .ok (.aload 7, 2) := by decide +kernel
theorem dX10_valueOf_119 : decode cX10_valueOf 119 = .ok (.getfield 204, 3) := by decide +kernel
theorem dX10_valueOf_122 : decode cX10_valueOf 122 = .ok (.iload 6, 2) := by decide +kernel
theorem dX10_valueOf_124 : decode cX10_valueOf 124 = .ok (.iaload, 1) := by decide +kernel
theorem dX10_valueOf_125 : decode cX10_valueOf 125 = .ok (.iload 5, 2) := by decide +kernel
theorem dX10_valueOf_127 : decode cX10_valueOf 127 = .ok (.iconst 1, 1) := by decide +kernel
theorem dX10_valueOf_128 : decode cX10_valueOf 128 = .ok (.iadd, 1) := by decide +kernel
theorem dX10_valueOf_129 : decode cX10_valueOf 129 = .ok (.invokevirtual 317, 3) := by decide +kernel
theorem dX10_valueOf_132 : decode cX10_valueOf 132 = .ok (.istore_n 3, 1) := by decide +kernel
theorem dX10_valueOf_133 : decode cX10_valueOf 133 = .ok (.iinc 4 1, 3) := by decide +kernel
theorem dX10_valueOf_136 : decode cX10_valueOf 136 = .ok (.goto (-122), 3) := by decide +kernel
theorem dX10_valueOf_139 : decode cX10_valueOf 139 = .ok (.iload_n 3, 1) := by decide +kernel
theorem dX10_valueOf_140 : decode cX10_valueOf 140 = .ok (.ifCond .le 9, 3) := by decide +kernel
theorem dX10_valueOf_143 : decode cX10_valueOf 143 = .ok (.ldc_w 313, 3) := by decide +kernel
theorem dX10_valueOf_146 : decode cX10_valueOf 146 = .ok (.goto 4, 3) := by decide +kernel
theorem dX10_valueOf_149 : decode cX10_valueOf 149 = .ok (.iload_n 2, 1) := by decide +kernel
theorem dX10_valueOf_150 : decode cX10_valueOf 150 = .ok (.ireturn, 1) := by decide +kernel
theorem dX10_openCall_0 : decode cX10_openCall 0 = .ok (.iload_n 2, 1) := by decide +kernel
theorem dX10_openCall_1 : decode cX10_openCall 1 = .ok (.iconst (-1), 1) := by decide +kernel
theorem dX10_openCall_2 : decode cX10_openCall 2 = .ok (.if_icmp .eq 12, 3) := by decide +kernel
theorem dX10_openCall_5 : decode cX10_openCall 5 = .ok (.iload_n 1, 1) := by decide +kernel
theorem dX10_openCall_6 : decode cX10_openCall 6 = .ok (.aload_n 0, 1) := by decide +kernel
theorem dX10_openCall_7 : decode cX10_openCall 7 = .ok (.getfield 44, 3) := by decide +kernel
theorem dX10_openCall_10 : decode cX10_openCall 10 = .ok (.arraylength, 1) := by decide +kernel
theorem dX10_openCall_11 : decode cX10_openCall 11 = .ok (.if_icmp .lt 5, 3) := by decide +kernel
theorem dX10_openCall_14 : decode cX10_openCall 14 = .ok (.iload_n 1, 1) := by decide +kernel
theorem dX10_openCall_15 : decode cX10_openCall 15 = .ok (.ireturn, 1) := by decide +kernel
theorem dX10_openCall_16 : decode cX10_openCall 16 = .ok (.aload_n 0, 1) := by decide +kernel
theorem dX10_openCall_17 : decode cX10_openCall 17 = .ok (.getfield 44, 3) := by decide +kernel
theorem dX10_openCall_20 : decode cX10_openCall 20 = .ok (.iload_n 1, 1) := by decide +kernel
theorem dX10_openCall_21 : decode cX10_openCall 21 = .ok (.iload_n 3, 1) := by decide +kernel
theorem dX10_openCall_22 : decode cX10_openCall 22 = .ok (.sipush 128, 3) := by decide +kernel
theorem dX10_openCall_25 : decode cX10_openCall 25 = .ok (.imul, 1) := by decide +kernel
theorem dX10_openCall_26 : decode cX10_openCall 26 = .ok (.iload_n 2, 1) := by decide +kernel
theorem dX10_openCall_27 : decode cX10_openCall 27 = .ok (.iadd, 1) := by decide +kernel
theorem dX10_openCall_28 : decode cX10_openCall 28 = .ok (.iastore, 1) := by decide +kernel
theorem dX10_openCall_29 : decode cX10_openCall 29 = .ok (.iload_n 1, 1) := by decide +kernel
theorem dX10_openCall_30 : decode cX10_openCall 30 = .ok (.iconst 1, 1) := by decide +kernel
theorem dX10_openCall_31 : decode cX10_openCall 31 = .ok (.iadd, 1) := by decide +kernel
theorem dX10_openCall_32 : decode cX10_openCall 32 = .ok (.ireturn, 1) := by decide +kernel
theorem dJ6_bitCount_0f7a4_0 : decode cJ6_bitCount_0f7a4 0 = .ok (.iload_n 0, 1) := by decide +kernel
theorem dJ6_bitCount_0f7a4_1 : decode cJ6_bitCount_0f7a4 1 = .ok (.iload_n 0, 1) := by decide +kernel
theorem dJ6_bitCount_0f7a4_2 : decode cJ6_bitCount_0f7a4 2 = .ok (.iconst 1, 1) := by decide +kernel
theorem dJ6_bitCount_0f7a4_3 : decode cJ6_bitCount_0f7a4 3 = .ok (.iushr, 1) := by decide +kernel
theorem dJ6_bitCount_0f7a4_4 : decode cJ6_bitCount_0f7a4 4 = .ok (.ldc_w 265, 3) := by decide +kernel
theorem dJ6_bitCount_0f7a4_7 : decode cJ6_bitCount_0f7a4 7 = .ok (.iand, 1) := by decide +kernel
theorem dJ6_bitCount_0f7a4_8 : decode cJ6_bitCount_0f7a4 8 = .ok (.isub, 1) := by decide +kernel
theorem dJ6_bitCount_0f7a4_9 : decode cJ6_bitCount_0f7a4 9 = .ok (.istore_n 0, 1) := by decide +kernel
theorem dJ6_bitCount_0f7a4_10 : decode cJ6_bitCount_0f7a4 10 = .ok (.iload_n 0, 1) := by decide +kernel
theorem dJ6_bitCount_0f7a4_11 : decode cJ6_bitCount_0f7a4 11 = .ok (.ldc_w 266, 3) := by decide +kernel
theorem dJ6_bitCount_0f7a4_14 : decode cJ6_bitCount_0f7a4 14 = .ok (.iand, 1) := by decide +kernel
theorem dJ6_bitCount_0f7a4_15 : decode cJ6_bitCount_0f7a4 15 = .ok (.iload_n 0, 1) := by decide +kernel
theorem dJ6_bitCount_0f7a4_16 : decode cJ6_bitCount_0f7a4 16 = .ok (.iconst 2, 1) := by decide +kernel
theorem dJ6_bitCount_0f7a4_17 : decode cJ6_bitCount_0f7a4 17 = .ok (.iushr, 1) := by decide +kernel
theorem dJ6_bitCount_0f7a4_18 : decode cJ6_bitCount_0f7a4 18 = .ok (.ldc_w 266, 3) := by decide +kernel
theorem dJ6_bitCount_0f7a4_21 : decode cJ6_bitCount_0f7a4 21 = .ok (.iand, 1) := by decide +kernel
theorem dJ6_bitCount_0f7a4_22 : decode cJ6_bitCount_0f7a4 22 = .ok (.iadd, 1) := by decide +kernel
theorem dJ6_bitCount_0f7a4_23 : decode cJ6_bitCount_0f7a4 23 = .ok (.istore_n 0, 1) := by decide +kernel
theorem dJ6_bitCount_0f7a4_24 : decode cJ6_bitCount_0f7a4 24 = .ok (.iload_n 0, 1) := by decide +kernel
theorem dJ6_bitCount_0f7a4_25 : decode cJ6_bitCount_0f7a4 25 = .ok (.iload_n 0, 1) := by decide +kernel
theorem dJ6_bitCount_0f7a4_26 : decode cJ6_bitCount_0f7a4 26 = .ok (.iconst 4, 1) := by decide +kernel
theorem dJ6_bitCount_0f7a4_27 : decode cJ6_bitCount_0f7a4 27 = .ok (.iushr, 1) := by decide +kernel
theorem dJ6_bitCount_0f7a4_28 : decode cJ6_bitCount_0f7a4 28 = .ok (.iadd, 1) := by decide +kernel
theorem dJ6_bitCount_0f7a4_29 : decode cJ6_bitCount_0f7a4 29 = .ok (.ldc_w 267, 3) := by decide +kernel
theorem dJ6_bitCount_0f7a4_32 : decode cJ6_bitCount_0f7a4 32 = .ok (.iand, 1) := by decide +kernel
theorem dJ6_bitCount_0f7a4_33 : decode cJ6_bitCount_0f7a4 33 = .ok (.istore_n 0, 1) := by decide +kernel
theorem dJ6_bitCount_0f7a4_34 : decode cJ6_bitCount_0f7a4 34 = .ok (.iload_n 0, 1) := by decide +kernel
theorem dJ6_bitCount_0f7a4_35 : decode cJ6_bitCount_0f7a4 35 = .ok (.iload_n 0, 1) := by decide +kernel
theorem dJ6_bitCount_0f7a4_36 : decode cJ6_bitCount_0f7a4 36 = .ok (.bipush 8, 2) := by decide +kernel
theorem dJ6_bitCount_0f7a4_38 : decode cJ6_bitCount_0f7a4 38 = .ok (.iushr, 1) := by decide +kernel
theorem dJ6_bitCount_0f7a4_39 : decode cJ6_bitCount_0f7a4 39 = .ok (.iadd, 1) := by decide +kernel
theorem dJ6_bitCount_0f7a4_40 : decode cJ6_bitCount_0f7a4 40 = .ok (.istore_n 0, 1) := by decide +kernel
theorem dJ6_bitCount_0f7a4_41 : decode cJ6_bitCount_0f7a4 41 = .ok (.iload_n 0, 1) := by decide +kernel
theorem dJ6_bitCount_0f7a4_42 : decode cJ6_bitCount_0f7a4 42 = .ok (.iload_n 0, 1) := by decide +kernel
theorem dJ6_bitCount_0f7a4_43 : decode cJ6_bitCount_0f7a4 43 = .ok (.bipush 16, 2) := by decide +kernel
theorem dJ6_bitCount_0f7a4_45 : decode cJ6_bitCount_0f7a4 45 = .ok (.iushr, 1) := by decide +kernel
theorem dJ6_bitCount_0f7a4_46 : decode cJ6_bitCount_0f7a4 46 = .ok (.iadd, 1) := by decide +kernel
theorem dJ6_bitCount_0f7a4_47 : decode cJ6_bitCount_0f7a4 47 = .ok (.istore_n 0, 1) := by decide +kernel
theorem dJ6_bitCount_0f7a4_48 : decode cJ6_bitCount_0f7a4 48 = .ok (.iload_n 0, 1) := by decide +kernel
theorem dJ6_bitCount_0f7a4_49 : decode cJ6_bitCount_0f7a4 49 = .ok (.bipush 63, 2) := by decide +kernel
theorem dJ6_bitCount_0f7a4_51 : decode cJ6_bitCount_0f7a4 51 = .ok (.iand, 1) := by decide +kernel
theorem dJ6_bitCount_0f7a4_52 : decode cJ6_bitCount_0f7a4 52 = .ok (.ireturn, 1) := by decide +kernel
theorem dJ7_fill_d0a16_0 : decode cJ7_fill_d0a16 0 = .ok (.iconst 0, 1) := by decide +kernel
theorem dJ7_fill_d0a16_1 : decode cJ7_fill_d0a16 1 = .ok (.istore_n 3, 1) := by decide +kernel
theorem dJ7_fill_d0a16_2 : decode cJ7_fill_d0a16 2 = .ok (.aload_n 0, 1) := by decide +kernel
theorem dJ7_fill_d0a16_3 : decode cJ7_fill_d0a16 3 = .ok (.arraylength, 1) := by decide +kernel
theorem dJ7_fill_d0a16_4 : decode cJ7_fill_d0a16 4 = .ok (.istore 4, 2) := by decide +kernel
theorem dJ7_fill_d0a16_6 : decode cJ7_fill_d0a16 6 = .ok (.iload_n 3, 1) := by decide +kernel
theorem dJ7_fill_d0a16_7 : decode cJ7_fill_d0a16 7 = .ok (.iload 4, 2) := by decide +kernel
theorem dJ7_fill_d0a16_9 : decode cJ7_fill_d0a16 9 = .ok (.if_icmp .ge 13, 3) := by decide +kernel
theorem dJ7_fill_d0a16_12 : decode cJ7_fill_d0a16 12 = .ok (.aload_n 0, 1) := by decide +kernel
theorem dJ7_fill_d0a16_13 : decode cJ7_fill_d0a16 13 = .ok (.iload_n 3, 1) := by decide +kernel
theorem dJ7_fill_d0a16_14 : decode cJ7_fill_d0a16 14 = .ok (.lload_n 1, 1) := by decide +kernel
theorem dJ7_fill_d0a16_15 : decode cJ7_fill_d0a16 15 = .ok (.lastore, 1) := by decide +kernel
theorem dJ7_fill_d0a16_16 : decode cJ7_fill_d0a16 16 = .ok (.iinc 3 1, 3) := by decide +kernel
theorem dJ7_fill_d0a16_19 : decode cJ7_fill_d0a16 19 = .ok (.goto (-13), 3) := by decide +kernel
theorem dJ7_fill_d0a16_22 : decode cJ7_fill_d0a16 22 = .ok (.return_, 1) := by decide +kernel
theorem dJ7_fill_53178_0 : decode cJ7_fill_53178 0 = .ok (.iconst 0, 1) := by decide +kernel
theorem dJ7_fill_53178_1 : decode cJ7_fill_53178 1 = .ok (.istore_n 2, 1) := by decide +kernel
theorem dJ7_fill_53178_2 : decode cJ7_fill_53178 2 = .ok (.aload_n 0, 1) := by decide +kernel
theorem dJ7_fill_53178_3 : decode cJ7_fill_53178 3 = .ok (.arraylength, 1) := by decide +kernel
theorem dJ7_fill_53178_4 : decode cJ7_fill_53178 4 = .ok (.istore_n 3, 1) := by decide +kernel
theorem dJ7_fill_53178_5 : decode cJ7_fill_53178 5 = .ok (.iload_n 2, 1) := by decide +kernel
theorem dJ7_fill_53178_6 : decode cJ7_fill_53178 6 = .ok (.iload_n 3, 1) := by decide +kernel
theorem dJ7_fill_53178_7 : decode cJ7_fill_53178 7 = .ok (.if_icmp .ge 13, 3) := by decide +kernel
theorem dJ7_fill_53178_10 : decode cJ7_fill_53178 10 = .ok (.aload_n 0, 1) := by decide +kernel
theorem dJ7_fill_53178_11 : decode cJ7_fill_53178 11 = .ok (.iload_n 2, 1) := by decide +kernel
theorem dJ7_fill_53178_12 : decode cJ7_fill_53178 12 = .ok (.iload_n 1, 1) := by decide +kernel
theorem dJ7_fill_53178_13 : decode cJ7_fill_53178 13 = .ok (.iastore, 1) := by decide +kernel
theorem dJ7_fill_53178_14 : decode cJ7_fill_53178 14 = .ok (.iinc 2 1, 3) := by decide +kernel
theorem dJ7_fill_53178_17 : decode cJ7_fill_53178 17 = .ok (.goto (-12), 3) := by decide +kernel
theorem dJ7_fill_53178_20 : decode cJ7_fill_53178 20 = .ok (.return_, 1) := by decide +kernel
theorem dL_below_0 : decode cL_below 0 = .ok (.iload_n 0, 1) := by decide +kernel
theorem dL_below_1 : decode cL_below 1 = .ok (.ldc 7, 2) := by decide +kernel
theorem dL_below_3 : decode cL_below 3 = .ok (.iand, 1) := by decide +kernel
theorem dL_below_4 : decode cL_below 4 = .ok (.iload_n 1, 1) := by decide +kernel
theorem dL_below_5 : decode cL_below 5 = .ok (.irem, 1) := by decide +kernel
theorem dL_below_6 : decode cL_below 6 = .ok (.ireturn, 1) := by decide +kernel
theorem dL_cell_0 : decode cL_cell 0 = .ok (.iload_n 1, 1) := by decide +kernel
theorem dL_cell_1 : decode cL_cell 1 = .ok (.aload_n 0, 1) := by decide +kernel
theorem dL_cell_2 : decode cL_cell 2 = .ok (.arraylength, 1) := by decide +kernel
theorem dL_cell_3 : decode cL_cell 3 = .ok (.if_icmp .ge 9, 3) := by decide +kernel
theorem dL_cell_6 : decode cL_cell 6 = .ok (.aload_n 0, 1) := by decide +kernel
theorem dL_cell_7 : decode cL_cell 7 = .ok (.iload_n 1, 1) := by decide +kernel
theorem dL_cell_8 : decode cL_cell 8 = .ok (.iaload, 1) := by decide +kernel
theorem dL_cell_9 : decode cL_cell 9 = .ok (.goto 9, 3) := by decide +kernel
theorem dL_cell_12 : decode cL_cell 12 = .ok (.ldc 8, 2) := by decide +kernel
theorem dL_cell_14 : decode cL_cell 14 = .ok (.iload_n 1, 1) := by decide +kernel
theorem dL_cell_15 : decode cL_cell 15 = .ok (.iconst 3, 1) := by decide +kernel
theorem dL_cell_16 : decode cL_cell 16 = .ok (.iadd, 1) := by decide +kernel
theorem dL_cell_17 : decode cL_cell 17 = .ok (.imul, 1) := by decide +kernel
theorem dL_cell_18 : decode cL_cell 18 = .ok (.ireturn, 1) := by decide +kernel
theorem dL_law_0 : decode cL_law 0 = .ok (.new 9, 3) := by decide +kernel
theorem dL_law_3 : decode cL_law 3 = .ok (.dup, 1) := by decide +kernel
theorem dL_law_4 : decode cL_law 4 = .ok (.invokespecial 11, 3) := by decide +kernel
theorem dL_law_7 : decode cL_law 7 = .ok (.astore_n 1, 1) := by decide +kernel
theorem dL_law_8 : decode cL_law 8 = .ok (.iconst 2, 1) := by decide +kernel
theorem dL_law_9 : decode cL_law 9 = .ok (.aload_n 0, 1) := by decide +kernel
theorem dL_law_10 : decode cL_law 10 = .ok (.iconst 0, 1) := by decide +kernel
theorem dL_law_11 : decode cL_law 11 = .ok (.invokestatic 12, 3) := by decide +kernel
theorem dL_law_14 : decode cL_law 14 = .ok (.bipush 6, 2) := by decide +kernel
theorem dL_law_16 : decode cL_law 16 = .ok (.invokestatic 18, 3) := by decide +kernel
theorem dL_law_19 : decode cL_law 19 = .ok (.iadd, 1) := by decide +kernel
theorem dL_law_20 : decode cL_law 20 = .ok (.istore_n 2, 1) := by decide +kernel
theorem dL_law_21 : decode cL_law 21 = .ok (.iconst 0, 1) := by decide +kernel
theorem dL_law_22 : decode cL_law 22 = .ok (.istore_n 3, 1) := by decide +kernel
theorem dL_law_23 : decode cL_law 23 = .ok (.iload_n 3, 1) := by decide +kernel
theorem dL_law_24 : decode cL_law 24 = .ok (.iload_n 2, 1) := by decide +kernel
theorem dL_law_25 : decode cL_law 25 = .ok (.if_icmp .ge 19, 3) := by decide +kernel
theorem dL_law_28 : decode cL_law 28 = .ok (.aload_n 1, 1) := by decide +kernel
theorem dL_law_29 : decode cL_law 29 = .ok (.invokevirtual 22, 3) := by decide +kernel
theorem dL_law_32 : decode cL_law 32 = .ok (.iload_n 3, 1) := by decide +kernel
theorem dL_law_33 : decode cL_law 33 = .ok (.if_icmp .eq 5, 3) := by decide +kernel
theorem dL_law_36 : decode cL_law 36 = .ok (.iconst 0, 1) := by decide +kernel
theorem dL_law_37 : decode cL_law 37 = .ok (.ireturn, 1) := by decide +kernel
theorem dL_law_38 : decode cL_law 38 = .ok (.iinc 3 1, 3) := by decide +kernel
theorem dL_law_41 : decode cL_law 41 = .ok (.goto (-18), 3) := by decide +kernel
theorem dL_law_44 : decode cL_law 44 = .ok (.iconst 0, 1) := by decide +kernel
theorem dL_law_45 : decode cL_law 45 = .ok (.istore_n 3, 1) := by decide +kernel
theorem dL_law_46 : decode cL_law 46 = .ok (.iload_n 3, 1) := by decide +kernel
theorem dL_law_47 : decode cL_law 47 = .ok (.bipush 20, 2) := by decide +kernel
theorem dL_law_49 : decode cL_law 49 = .ok (.if_icmp .ge 49, 3) := by decide +kernel
theorem dL_law_52 : decode cL_law 52 = .ok (.aload_n 1, 1) := by decide +kernel
theorem dL_law_53 : decode cL_law 53 = .ok (.iload_n 2, 1) := by decide +kernel
theorem dL_law_54 : decode cL_law 54 = .ok (.aload_n 0, 1) := by decide +kernel
theorem dL_law_55 : decode cL_law 55 = .ok (.iload_n 3, 1) := by decide +kernel
theorem dL_law_56 : decode cL_law 56 = .ok (.bipush 16, 2) := by decide +kernel
theorem dL_law_58 : decode cL_law 58 = .ok (.irem, 1) := by decide +kernel
theorem dL_law_59 : decode cL_law 59 = .ok (.invokestatic 12, 3) := by decide +kernel
theorem dL_law_62 : decode cL_law 62 = .ok (.bipush 29, 2) := by decide +kernel
theorem dL_law_64 : decode cL_law 64 = .ok (.iload_n 3, 1) := by decide +kernel
theorem dL_law_65 : decode cL_law 65 = .ok (.imul, 1) := by decide +kernel
theorem dL_law_66 : decode cL_law 66 = .ok (.iadd, 1) := by decide +kernel
theorem dL_law_67 : decode cL_law 67 = .ok (.aload_n 0, 1) := by decide +kernel
theorem dL_law_68 : decode cL_law 68 = .ok (.iconst 5, 1) := by decide +kernel
theorem dL_law_69 : decode cL_law 69 = .ok (.iload_n 3, 1) := by decide +kernel
theorem dL_law_70 : decode cL_law 70 = .ok (.imul, 1) := by decide +kernel
theorem dL_law_71 : decode cL_law 71 = .ok (.iconst 2, 1) := by decide +kernel
theorem dL_law_72 : decode cL_law 72 = .ok (.iadd, 1) := by decide +kernel
theorem dL_law_73 : decode cL_law 73 = .ok (.bipush 16, 2) := by decide +kernel
theorem dL_law_75 : decode cL_law 75 = .ok (.irem, 1) := by decide +kernel
theorem dL_law_76 : decode cL_law 76 = .ok (.invokestatic 12, 3) := by decide +kernel
theorem dL_law_79 : decode cL_law 79 = .ok (.bipush 17, 2) := by decide +kernel
theorem dL_law_81 : decode cL_law 81 = .ok (.iload_n 3, 1) := by decide +kernel
theorem dL_law_82 : decode cL_law 82 = .ok (.imul, 1) := by decide +kernel
theorem dL_law_83 : decode cL_law 83 = .ok (.iadd, 1) := by decide +kernel
theorem dL_law_84 : decode cL_law 84 = .ok (.invokestatic 26, 3) := by decide +kernel
theorem dL_law_87 : decode cL_law 87 = .ok (.ifCond .ne 5, 3) := by decide +kernel
theorem dL_law_90 : decode cL_law 90 = .ok (.iconst 0, 1) := by decide +kernel
theorem dL_law_91 : decode cL_law 91 = .ok (.ireturn, 1) := by decide +kernel
theorem dL_law_92 : decode cL_law 92 = .ok (.iinc 3 1, 3) := by decide +kernel
theorem dL_law_95 : decode cL_law 95 = .ok (.goto (-49), 3) := by decide +kernel
theorem dL_law_98 : decode cL_law 98 = .ok (.iconst 0, 1) := by decide +kernel
theorem dL_law_99 : decode cL_law 99 = .ok (.istore_n 3, 1) := by decide +kernel
theorem dL_law_100 : decode cL_law 100 = .ok (.iload_n 3, 1) := by decide +kernel
theorem dL_law_101 : decode cL_law 101 = .ok (.iconst 5, 1) := by decide +kernel
theorem dL_law_102 : decode cL_law 102 = .ok (.if_icmp .ge 342, 3) := by decide +kernel
theorem dL_law_105 : decode cL_law 105 = .ok (.aload_n 1, 1) := by decide +kernel
theorem dL_law_106 : decode cL_law 106 = .ok (.invokevirtual 30, 3) := by decide +kernel
theorem dL_law_109 : decode cL_law 109 = .ok (.istore 4, 2) := by decide +kernel
theorem dL_law_111 : decode cL_law 111 = .ok (.aload_n 1, 1) := by decide +kernel
theorem dL_law_112 : decode cL_law 112 = .ok (.iconst 1, 1) := by decide +kernel
theorem dL_law_113 : decode cL_law 113 = .ok (.invokevirtual 33, 3) := by decide +kernel
theorem dL_law_116 : decode cL_law 116 = .ok (.iload 4, 2) := by decide +kernel
theorem dL_law_118 : decode cL_law 118 = .ok (.if_icmp .ne 39, 3) := by decide +kernel
theorem dL_law_121 : decode cL_law 121 = .ok (.aload_n 1, 1) := by decide +kernel
theorem dL_law_122 : decode cL_law 122 = .ok (.iconst 3, 1) := by decide +kernel
theorem dL_law_123 : decode cL_law 123 = .ok (.invokevirtual 33, 3) := by decide +kernel
theorem dL_law_126 : decode cL_law 126 = .ok (.iload 4, 2) := by decide +kernel
theorem dL_law_128 : decode cL_law 128 = .ok (.if_icmp .gt 29, 3) := by decide +kernel
theorem dL_law_131 : decode cL_law 131 = .ok (.aload_n 1, 1) := by decide +kernel
theorem dL_law_132 : decode cL_law 132 = .ok (.iconst 4, 1) := by decide +kernel
theorem dL_law_133 : decode cL_law 133 = .ok (.invokevirtual 37, 3) := by decide +kernel
theorem dL_law_136 : decode cL_law 136 = .ok (.ifCond .le 7, 3) := by decide +kernel
theorem dL_law_139 : decode cL_law 139 = .ok (.iconst 1, 1) := by decide +kernel
theorem dL_law_140 : decode cL_law 140 = .ok (.goto 4, 3) := by decide +kernel
theorem dL_law_143 : decode cL_law 143 = .ok (.iconst 0, 1) := by decide +kernel
theorem dL_law_144 : decode cL_law 144 = .ok (.iload 4, 2) := by decide +kernel
theorem dL_law_146 : decode cL_law 146 = .ok (.ifCond .le 7, 3) := by decide +kernel
theorem dL_law_149 : decode cL_law 149 = .ok (.iconst 1, 1) := by decide +kernel
theorem dL_law_150 : decode cL_law 150 = .ok (.goto 4, 3) := by decide +kernel
theorem dL_law_153 : decode cL_law 153 = .ok (.iconst 0, 1) := by decide +kernel
theorem dL_law_154 : decode cL_law 154 = .ok (.if_icmp .eq 5, 3) := by decide +kernel
theorem dL_law_157 : decode cL_law 157 = .ok (.iconst 0, 1) := by decide +kernel
theorem dL_law_158 : decode cL_law 158 = .ok (.ireturn, 1) := by decide +kernel
theorem dL_law_159 : decode cL_law 159 = .ok (.aload_n 1, 1) := by decide +kernel
theorem dL_law_160 : decode cL_law 160 = .ok (.bipush 7, 2) := by decide +kernel
theorem dL_law_162 : decode cL_law 162 = .ok (.invokevirtual 37, 3) := by decide +kernel
theorem dL_law_165 : decode cL_law 165 = .ok (.aload_n 1, 1) := by decide +kernel
theorem dL_law_166 : decode cL_law 166 = .ok (.bipush 8, 2) := by decide +kernel
theorem dL_law_168 : decode cL_law 168 = .ok (.invokevirtual 37, 3) := by decide +kernel
theorem dL_law_171 : decode cL_law 171 = .ok (.iadd, 1) := by decide +kernel
theorem dL_law_172 : decode cL_law 172 = .ok (.istore 5, 2) := by decide +kernel
theorem dL_law_174 : decode cL_law 174 = .ok (.aload_n 1, 1) := by decide +kernel
theorem dL_law_175 : decode cL_law 175 = .ok (.iconst 1, 1) := by decide +kernel
theorem dL_law_176 : decode cL_law 176 = .ok (.aload_n 0, 1) := by decide +kernel
theorem dL_law_177 : decode cL_law 177 = .ok (.iload_n 3, 1) := by decide +kernel
theorem dL_law_178 : decode cL_law 178 = .ok (.bipush 6, 2) := by decide +kernel
theorem dL_law_180 : decode cL_law 180 = .ok (.iadd, 1) := by decide +kernel
theorem dL_law_181 : decode cL_law 181 = .ok (.invokestatic 12, 3) := by decide +kernel
theorem dL_law_184 : decode cL_law 184 = .ok (.iconst 3, 1) := by decide +kernel
theorem dL_law_185 : decode cL_law 185 = .ok (.invokestatic 18, 3) := by decide +kernel
theorem dL_law_188 : decode cL_law 188 = .ok (.iadd, 1) := by decide +kernel
theorem dL_law_189 : decode cL_law 189 = .ok (.invokevirtual 40, 3) := by decide +kernel
theorem dL_law_192 : decode cL_law 192 = .ok (.istore 6, 2) := by decide +kernel
theorem dL_law_194 : decode cL_law 194 = .ok (.iload 6, 2) := by decide +kernel
theorem dL_law_196 : decode cL_law 196 = .ok (.iload 4, 2) := by decide +kernel
theorem dL_law_198 : decode cL_law 198 = .ok (.if_icmp .gt 36, 3) := by decide +kernel
theorem dL_law_201 : decode cL_law 201 = .ok (.aload_n 1, 1) := by decide +kernel
theorem dL_law_202 : decode cL_law 202 = .ok (.bipush 7, 2) := by decide +kernel
theorem dL_law_204 : decode cL_law 204 = .ok (.invokevirtual 37, 3) := by decide +kernel
theorem dL_law_207 : decode cL_law 207 = .ok (.aload_n 1, 1) := by decide +kernel
theorem dL_law_208 : decode cL_law 208 = .ok (.bipush 8, 2) := by decide +kernel
theorem dL_law_210 : decode cL_law 210 = .ok (.invokevirtual 37, 3) := by decide +kernel
theorem dL_law_213 : decode cL_law 213 = .ok (.iadd, 1) := by decide +kernel
theorem dL_law_214 : decode cL_law 214 = .ok (.iload 5, 2) := by decide +kernel
theorem dL_law_216 : decode cL_law 216 = .ok (.iload 6, 2) := by decide +kernel
theorem dL_law_218 : decode cL_law 218 = .ok (.iadd, 1) := by decide +kernel
theorem dL_law_219 : decode cL_law 219 = .ok (.if_icmp .ne 15, 3) := by decide +kernel
theorem dL_law_222 : decode cL_law 222 = .ok (.aload_n 1, 1) := by decide +kernel
theorem dL_law_223 : decode cL_law 223 = .ok (.invokevirtual 30, 3) := by decide +kernel
theorem dL_law_226 : decode cL_law 226 = .ok (.iload 4, 2) := by decide +kernel
theorem dL_law_228 : decode cL_law 228 = .ok (.iload 6, 2) := by decide +kernel
theorem dL_law_230 : decode cL_law 230 = .ok (.isub, 1) := by decide +kernel
theorem dL_law_231 : decode cL_law 231 = .ok (.if_icmp .le 5, 3) := by decide +kernel
theorem dL_law_234 : decode cL_law 234 = .ok (.iconst 0, 1) := by decide +kernel
theorem dL_law_235 : decode cL_law 235 = .ok (.ireturn, 1) := by decide +kernel
theorem dL_law_236 : decode cL_law 236 = .ok (.aload_n 1, 1) := by decide +kernel
theorem dL_law_237 : decode cL_law 237 = .ok (.invokevirtual 30, 3) := by decide +kernel
theorem dL_law_240 : decode cL_law 240 = .ok (.istore 7, 2) := by decide +kernel
theorem dL_law_242 : decode cL_law 242 = .ok (.aload_n 1, 1) := by decide +kernel
theorem dL_law_243 : decode cL_law 243 = .ok (.bipush 8, 2) := by decide +kernel
theorem dL_law_245 : decode cL_law 245 = .ok (.invokevirtual 40, 3) := by decide +kernel
theorem dL_law_248 : decode cL_law 248 = .ok (.iload 7, 2) := by decide +kernel
theorem dL_law_250 : decode cL_law 250 = .ok (.if_icmp .ne 44, 3) := by decide +kernel
theorem dL_law_253 : decode cL_law 253 = .ok (.aload_n 1, 1) := by decide +kernel
theorem dL_law_254 : decode cL_law 254 = .ok (.iconst 4, 1) := by decide +kernel
theorem dL_law_255 : decode cL_law 255 = .ok (.invokevirtual 37, 3) := by decide +kernel
theorem dL_law_258 : decode cL_law 258 = .ok (.ifCond .ne 36, 3) := by decide +kernel
theorem dL_law_261 : decode cL_law 261 = .ok (.aload_n 1, 1) := by decide +kernel
theorem dL_law_262 : decode cL_law 262 = .ok (.invokevirtual 30, 3) := by decide +kernel
theorem dL_law_265 : decode cL_law 265 = .ok (.ifCond .ne 29, 3) := by decide +kernel
theorem dL_law_268 : decode cL_law 268 = .ok (.aload_n 1, 1) := by decide +kernel
theorem dL_law_269 : decode cL_law 269 = .ok (.invokevirtual 43, 3) := by decide +kernel
theorem dL_law_272 : decode cL_law 272 = .ok (.ifCond .eq 22, 3) := by decide +kernel
theorem dL_law_275 : decode cL_law 275 = .ok (.aload_n 1, 1) := by decide +kernel
theorem dL_law_276 : decode cL_law 276 = .ok (.bipush 6, 2) := by decide +kernel
theorem dL_law_278 : decode cL_law 278 = .ok (.invokevirtual 37, 3) := by decide +kernel
theorem dL_law_281 : decode cL_law 281 = .ok (.bipush 10, 2) := by decide +kernel
theorem dL_law_283 : decode cL_law 283 = .ok (.if_icmp .gt 11, 3) := by decide +kernel
theorem dL_law_286 : decode cL_law 286 = .ok (.aload_n 1, 1) := by decide +kernel
theorem dL_law_287 : decode cL_law 287 = .ok (.iload_n 2, 1) := by decide +kernel
theorem dL_law_288 : decode cL_law 288 = .ok (.invokestatic 47, 3) := by decide +kernel
theorem dL_law_291 : decode cL_law 291 = .ok (.ifCond .ne 5, 3) := by decide +kernel
theorem dL_law_294 : decode cL_law 294 = .ok (.iconst 0, 1) := by decide +kernel
theorem dL_law_295 : decode cL_law 295 = .ok (.ireturn, 1) := by decide +kernel
theorem dL_law_296 : decode cL_law 296 = .ok (.bipush 16, 2) := by decide +kernel
theorem dL_law_298 : decode cL_law 298 = .ok (.iload_n 2, 1) := by decide +kernel
theorem dL_law_299 : decode cL_law 299 = .ok (.imul, 1) := by decide +kernel
theorem dL_law_300 : decode cL_law 300 = .ok (.newarray .int, 2) := by decide +kernel
theorem dL_law_302 : decode cL_law 302 = .ok (.astore 8, 2) := by decide +kernel
theorem dL_law_304 : decode cL_law 304 = .ok (.iconst 0, 1) := by decide +kernel
theorem dL_law_305 : decode cL_law 305 = .ok (.istore 9, 2) := by decide +kernel
theorem dL_law_307 : decode cL_law 307 = .ok (.iload 9, 2) := by decide +kernel
theorem dL_law_309 : decode cL_law 309 = .ok (.aload 8, 2) := by decide +kernel
theorem dL_law_311 : decode cL_law 311 = .ok (.arraylength, 1) := by decide +kernel
theorem dL_law_312 : decode cL_law 312 = .ok (.if_icmp .ge 28, 3) := by decide +kernel
theorem dL_law_315 : decode cL_law 315 = .ok (.aload 8, 2) := by decide +kernel
theorem dL_law_317 : decode cL_law 317 = .ok (.iload 9, 2) := by decide +kernel
theorem dL_law_319 : decode cL_law 319 = .ok (.aload_n 1, 1) := by decide +kernel
theorem dL_law_320 : decode cL_law 320 = .ok (.iload 9, 2) := by decide +kernel
theorem dL_law_322 : decode cL_law 322 = .ok (.bipush 16, 2) := by decide +kernel
theorem dL_law_324 : decode cL_law 324 = .ok (.idiv, 1) := by decide +kernel
theorem dL_law_325 : decode cL_law 325 = .ok (.iload 9, 2) := by decide +kernel
theorem dL_law_327 : decode cL_law 327 = .ok (.bipush 16, 2) := by decide +kernel
theorem dL_law_329 : decode cL_law 329 = .ok (.irem, 1) := by decide +kernel
theorem dL_law_330 : decode cL_law 330 = .ok (.invokevirtual 51, 3) := by decide +kernel
theorem dL_law_333 : decode cL_law 333 = .ok (.iastore, 1) := by decide +kernel
theorem dL_law_334 : decode cL_law 334 = .ok (.iinc 9 1, 3) := by decide +kernel
theorem dL_law_337 : decode cL_law 337 = .ok (.goto (-30), 3) := by decide +kernel
theorem dL_law_340 : decode cL_law 340 = .ok (.iconst 0, 1) := by decide +kernel
theorem dL_law_341 : decode cL_law 341 = .ok (.istore 9, 2) := by decide +kernel
theorem dL_law_343 : decode cL_law 343 = .ok (.iload 9, 2) := by decide +kernel
theorem dL_law_345 : decode cL_law 345 = .ok (.iconst 3, 1) := by decide +kernel
theorem dL_law_346 : decode cL_law 346 = .ok (.if_icmp .ge 51, 3) := by decide +kernel
theorem dL_law_349 : decode cL_law 349 = .ok (.aload_n 1, 1) := by decide +kernel
theorem dL_law_350 : decode cL_law 350 = .ok (.iload_n 2, 1) := by decide +kernel
theorem dL_law_351 : decode cL_law 351 = .ok (.aload_n 0, 1) := by decide +kernel
theorem dL_law_352 : decode cL_law 352 = .ok (.iload 9, 2) := by decide +kernel
theorem dL_law_354 : decode cL_law 354 = .ok (.iconst 4, 1) := by decide +kernel
theorem dL_law_355 : decode cL_law 355 = .ok (.iload_n 3, 1) := by decide +kernel
theorem dL_law_356 : decode cL_law 356 = .ok (.imul, 1) := by decide +kernel
theorem dL_law_357 : decode cL_law 357 = .ok (.iadd, 1) := by decide +kernel
theorem dL_law_358 : decode cL_law 358 = .ok (.bipush 16, 2) := by decide +kernel
theorem dL_law_360 : decode cL_law 360 = .ok (.irem, 1) := by decide +kernel
theorem dL_law_361 : decode cL_law 361 = .ok (.invokestatic 12, 3) := by decide +kernel
theorem dL_law_364 : decode cL_law 364 = .ok (.iload 9, 2) := by decide +kernel
theorem dL_law_366 : decode cL_law 366 = .ok (.iadd, 1) := by decide +kernel
theorem dL_law_367 : decode cL_law 367 = .ok (.aload_n 0, 1) := by decide +kernel
theorem dL_law_368 : decode cL_law 368 = .ok (.iload 9, 2) := by decide +kernel
theorem dL_law_370 : decode cL_law 370 = .ok (.iload_n 3, 1) := by decide +kernel
theorem dL_law_371 : decode cL_law 371 = .ok (.iadd, 1) := by decide +kernel
theorem dL_law_372 : decode cL_law 372 = .ok (.bipush 7, 2) := by decide +kernel
theorem dL_law_374 : decode cL_law 374 = .ok (.iadd, 1) := by decide +kernel
theorem dL_law_375 : decode cL_law 375 = .ok (.bipush 16, 2) := by decide +kernel
theorem dL_law_377 : decode cL_law 377 = .ok (.irem, 1) := by decide +kernel
theorem dL_law_378 : decode cL_law 378 = .ok (.invokestatic 12, 3) := by decide +kernel
theorem dL_law_381 : decode cL_law 381 = .ok (.iload_n 3, 1) := by decide +kernel
theorem dL_law_382 : decode cL_law 382 = .ok (.iadd, 1) := by decide +kernel
theorem dL_law_383 : decode cL_law 383 = .ok (.invokestatic 26, 3) := by decide +kernel
theorem dL_law_386 : decode cL_law 386 = .ok (.ifCond .ne 5, 3) := by decide +kernel
theorem dL_law_389 : decode cL_law 389 = .ok (.iconst 0, 1) := by decide +kernel
theorem dL_law_390 : decode cL_law 390 = .ok (.ireturn, 1) := by decide +kernel
theorem dL_law_391 : decode cL_law 391 = .ok (.iinc 9 1, 3) := by decide +kernel
theorem dL_law_394 : decode cL_law 394 = .ok (.goto (-51), 3) := by decide +kernel
theorem dL_law_397 : decode cL_law 397 = .ok (.iconst 0, 1) := by decide +kernel
theorem dL_law_398 : decode cL_law 398 = .ok (.istore 9, 2) := by decide +kernel
theorem dL_law_400 : decode cL_law 400 = .ok (.iload 9, 2) := by decide +kernel
theorem dL_law_402 : decode cL_law 402 = .ok (.aload 8, 2) := by decide +kernel
theorem dL_law_404 : decode cL_law 404 = .ok (.arraylength, 1) := by decide +kernel
theorem dL_law_405 : decode cL_law 405 = .ok (.if_icmp .ge 33, 3) := by decide +kernel
theorem dL_law_408 : decode cL_law 408 = .ok (.aload_n 1, 1) := by decide +kernel
theorem dL_law_409 : decode cL_law 409 = .ok (.iload 9, 2) := by decide +kernel
theorem dL_law_411 : decode cL_law 411 = .ok (.bipush 16, 2) := by decide +kernel
theorem dL_law_413 : decode cL_law 413 = .ok (.idiv, 1) := by decide +kernel
theorem dL_law_414 : decode cL_law 414 = .ok (.iload 9, 2) := by decide +kernel
theorem dL_law_416 : decode cL_law 416 = .ok (.bipush 16, 2) := by decide +kernel
theorem dL_law_418 : decode cL_law 418 = .ok (.irem, 1) := by decide +kernel
theorem dL_law_419 : decode cL_law 419 = .ok (.invokevirtual 51, 3) := by decide +kernel
theorem dL_law_422 : decode cL_law 422 = .ok (.aload 8, 2) := by decide +kernel
theorem dL_law_424 : decode cL_law 424 = .ok (.iload 9, 2) := by decide +kernel
theorem dL_law_426 : decode cL_law 426 = .ok (.iaload, 1) := by decide +kernel
theorem dL_law_427 : decode cL_law 427 = .ok (.if_icmp .eq 5, 3) := by decide +kernel
theorem dL_law_430 : decode cL_law 430 = .ok (.iconst 0, 1) := by decide +kernel
theorem dL_law_431 : decode cL_law 431 = .ok (.ireturn, 1) := by decide +kernel
theorem dL_law_432 : decode cL_law 432 = .ok (.iinc 9 1, 3) := by decide +kernel
theorem dL_law_435 : decode cL_law 435 = .ok (.goto (-35), 3) := by decide +kernel
theorem dL_law_438 : decode cL_law 438 = .ok (.iinc 3 1, 3) := by decide +kernel
theorem dL_law_441 : decode cL_law 441 = .ok (.goto (-341), 3) := by decide +kernel
theorem dL_law_444 : decode cL_law 444 = .ok (.aload_n 1, 1) := by decide +kernel
theorem dL_law_445 : decode cL_law 445 = .ok (.invokevirtual 54, 3) := by decide +kernel
theorem dL_law_448 : decode cL_law 448 = .ok (.lstore_n 3, 1) := by decide +kernel
theorem dL_law_449 : decode cL_law 449 = .ok (.aload_n 1, 1) := by decide +kernel
theorem dL_law_450 : decode cL_law 450 = .ok (.iconst 0, 1) := by decide +kernel
theorem dL_law_451 : decode cL_law 451 = .ok (.iconst 0, 1) := by decide +kernel
theorem dL_law_452 : decode cL_law 452 = .ok (.iconst 1, 1) := by decide +kernel
theorem dL_law_453 : decode cL_law 453 = .ok (.invokevirtual 58, 3) := by decide +kernel
theorem dL_law_456 : decode cL_law 456 = .ok (.ifCond .lt 11, 3) := by decide +kernel
theorem dL_law_459 : decode cL_law 459 = .ok (.aload_n 1, 1) := by decide +kernel
theorem dL_law_460 : decode cL_law 460 = .ok (.iconst 2, 1) := by decide +kernel
theorem dL_law_461 : decode cL_law 461 = .ok (.invokevirtual 33, 3) := by decide +kernel
theorem dL_law_464 : decode cL_law 464 = .ok (.ifCond .ge 5, 3) := by decide +kernel
theorem dL_law_467 : decode cL_law 467 = .ok (.iconst 0, 1) := by decide +kernel
theorem dL_law_468 : decode cL_law 468 = .ok (.ireturn, 1) := by decide +kernel
theorem dL_law_469 : decode cL_law 469 = .ok (.aload_n 1, 1) := by decide +kernel
theorem dL_law_470 : decode cL_law 470 = .ok (.invokevirtual 54, 3) := by decide +kernel
theorem dL_law_473 : decode cL_law 473 = .ok (.lload_n 3, 1) := by decide +kernel
theorem dL_law_474 : decode cL_law 474 = .ok (.lcmp, 1) := by decide +kernel
theorem dL_law_475 : decode cL_law 475 = .ok (.ifCond .ne 7, 3) := by decide +kernel
theorem dL_law_478 : decode cL_law 478 = .ok (.iconst 1, 1) := by decide +kernel
theorem dL_law_479 : decode cL_law 479 = .ok (.goto 4, 3) := by decide +kernel
theorem dL_law_482 : decode cL_law 482 = .ok (.iconst 0, 1) := by decide +kernel
theorem dL_law_483 : decode cL_law 483 = .ok (.ireturn, 1) := by decide +kernel
theorem dL_isBuilt_0 : decode cL_isBuilt 0 = .ok (.iconst 0, 1) := by decide +kernel
theorem dL_isBuilt_1 : decode cL_isBuilt 1 = .ok (.istore_n 2, 1) := by decide +kernel
theorem dL_isBuilt_2 : decode cL_isBuilt 2 = .ok (.iconst 0, 1) := by decide +kernel
theorem dL_isBuilt_3 : decode cL_isBuilt 3 = .ok (.istore_n 3, 1) := by decide +kernel
theorem dL_isBuilt_4 : decode cL_isBuilt 4 = .ok (.iload_n 3, 1) := by decide +kernel
theorem dL_isBuilt_5 : decode cL_isBuilt 5 = .ok (.iload_n 1, 1) := by decide +kernel
theorem dL_isBuilt_6 : decode cL_isBuilt 6 = .ok (.if_icmp .ge 172, 3) := by decide +kernel
theorem dL_isBuilt_9 : decode cL_isBuilt 9 = .ok (.iconst 0, 1) := by decide +kernel
theorem dL_isBuilt_10 : decode cL_isBuilt 10 = .ok (.istore 4, 2) := by decide +kernel
theorem dL_isBuilt_12 : decode cL_isBuilt 12 = .ok (.iload 4, 2) := by decide +kernel
theorem dL_isBuilt_14 : decode cL_isBuilt 14 = .ok (.bipush 16, 2) := by decide +kernel
theorem dL_isBuilt_16 : decode cL_isBuilt 16 = .ok (.if_icmp .ge 156, 3) := by decide +kernel
theorem dL_isBuilt_19 : decode cL_isBuilt 19 = .ok (.aload_n 0, 1) := by decide +kernel
theorem dL_isBuilt_20 : decode cL_isBuilt 20 = .ok (.iload_n 3, 1) := by decide +kernel
theorem dL_isBuilt_21 : decode cL_isBuilt 21 = .ok (.iload 4, 2) := by decide +kernel
theorem dL_isBuilt_23 : decode cL_isBuilt 23 = .ok (.iconst 0, 1) := by decide +kernel
theorem dL_isBuilt_24 : decode cL_isBuilt 24 = .ok (.invokevirtual 62, 3) := by decide +kernel
theorem dL_isBuilt_27 : decode cL_isBuilt 27 = .ok (.istore 5, 2) := by decide +kernel
theorem dL_isBuilt_29 : decode cL_isBuilt 29 = .ok (.iload 5, 2) := by decide +kernel
theorem dL_isBuilt_31 : decode cL_isBuilt 31 = .ok (.ifCond .ge 6, 3) := by decide +kernel
theorem dL_isBuilt_34 : decode cL_isBuilt 34 = .ok (.goto 132, 3) := by decide +kernel
theorem dL_isBuilt_37 : decode cL_isBuilt 37 = .ok (.iload 5, 2) := by decide +kernel
theorem dL_isBuilt_39 : decode cL_isBuilt 39 = .ok (.ifCond .le 39, 3) := by decide +kernel
theorem dL_isBuilt_42 : decode cL_isBuilt 42 = .ok (.aload_n 0, 1) := by decide +kernel
theorem dL_isBuilt_43 : decode cL_isBuilt 43 = .ok (.iload_n 3, 1) := by decide +kernel
theorem dL_isBuilt_44 : decode cL_isBuilt 44 = .ok (.iload 4, 2) := by decide +kernel
theorem dL_isBuilt_46 : decode cL_isBuilt 46 = .ok (.invokevirtual 51, 3) := by decide +kernel
theorem dL_isBuilt_49 : decode cL_isBuilt 49 = .ok (.ldc 65, 2) := by decide +kernel
theorem dL_isBuilt_51 : decode cL_isBuilt 51 = .ok (.if_icmp .ne 25, 3) := by decide +kernel
theorem dL_isBuilt_54 : decode cL_isBuilt 54 = .ok (.aload_n 0, 1) := by decide +kernel
theorem dL_isBuilt_55 : decode cL_isBuilt 55 = .ok (.iload_n 3, 1) := by decide +kernel
theorem dL_isBuilt_56 : decode cL_isBuilt 56 = .ok (.iload 4, 2) := by decide +kernel
theorem dL_isBuilt_58 : decode cL_isBuilt 58 = .ok (.iconst 2, 1) := by decide +kernel
theorem dL_isBuilt_59 : decode cL_isBuilt 59 = .ok (.invokevirtual 62, 3) := by decide +kernel
theorem dL_isBuilt_62 : decode cL_isBuilt 62 = .ok (.ifCond .ne 14, 3) := by decide +kernel
theorem dL_isBuilt_65 : decode cL_isBuilt 65 = .ok (.aload_n 0, 1) := by decide +kernel
theorem dL_isBuilt_66 : decode cL_isBuilt 66 = .ok (.iload_n 3, 1) := by decide +kernel
theorem dL_isBuilt_67 : decode cL_isBuilt 67 = .ok (.iload 4, 2) := by decide +kernel
theorem dL_isBuilt_69 : decode cL_isBuilt 69 = .ok (.iconst 3, 1) := by decide +kernel
theorem dL_isBuilt_70 : decode cL_isBuilt 70 = .ok (.invokevirtual 62, 3) := by decide +kernel
theorem dL_isBuilt_73 : decode cL_isBuilt 73 = .ok (.ifCond .eq 5, 3) := by decide +kernel
theorem dL_isBuilt_76 : decode cL_isBuilt 76 = .ok (.iconst 0, 1) := by decide +kernel
theorem dL_isBuilt_77 : decode cL_isBuilt 77 = .ok (.ireturn, 1) := by decide +kernel
theorem dL_isBuilt_78 : decode cL_isBuilt 78 = .ok (.aload_n 0, 1) := by decide +kernel
theorem dL_isBuilt_79 : decode cL_isBuilt 79 = .ok (.iload_n 3, 1) := by decide +kernel
theorem dL_isBuilt_80 : decode cL_isBuilt 80 = .ok (.iload 4, 2) := by decide +kernel
theorem dL_isBuilt_82 : decode cL_isBuilt 82 = .ok (.iconst 1, 1) := by decide +kernel
theorem dL_isBuilt_83 : decode cL_isBuilt 83 = .ok (.invokevirtual 62, 3) := by decide +kernel
theorem dL_isBuilt_86 : decode cL_isBuilt 86 = .ok (.iconst 1, 1) := by decide +kernel
theorem dL_isBuilt_87 : decode cL_isBuilt 87 = .ok (.if_icmp .ne 34, 3) := by decide +kernel
theorem dL_isBuilt_90 : decode cL_isBuilt 90 = .ok (.aload_n 0, 1) := by decide +kernel
theorem dL_isBuilt_91 : decode cL_isBuilt 91 = .ok (.iload_n 3, 1) := by decide +kernel
theorem dL_isBuilt_92 : decode cL_isBuilt 92 = .ok (.iload 4, 2) := by decide +kernel
theorem dL_isBuilt_94 : decode cL_isBuilt 94 = .ok (.iconst 3, 1) := by decide +kernel
theorem dL_isBuilt_95 : decode cL_isBuilt 95 = .ok (.invokevirtual 62, 3) := by decide +kernel
theorem dL_isBuilt_98 : decode cL_isBuilt 98 = .ok (.ifCond .ne 21, 3) := by decide +kernel
theorem dL_isBuilt_101 : decode cL_isBuilt 101 = .ok (.aload_n 0, 1) := by decide +kernel
theorem dL_isBuilt_102 : decode cL_isBuilt 102 = .ok (.iload_n 3, 1) := by decide +kernel
theorem dL_isBuilt_103 : decode cL_isBuilt 103 = .ok (.iload 4, 2) := by decide +kernel
theorem dL_isBuilt_105 : decode cL_isBuilt 105 = .ok (.invokevirtual 51, 3) := by decide +kernel
theorem dL_isBuilt_108 : decode cL_isBuilt 108 = .ok (.aload_n 0, 1) := by decide +kernel
theorem dL_isBuilt_109 : decode cL_isBuilt 109 = .ok (.iload_n 3, 1) := by decide +kernel
theorem dL_isBuilt_110 : decode cL_isBuilt 110 = .ok (.iload 4, 2) := by decide +kernel
theorem dL_isBuilt_112 : decode cL_isBuilt 112 = .ok (.iconst 2, 1) := by decide +kernel
theorem dL_isBuilt_113 : decode cL_isBuilt 113 = .ok (.invokevirtual 62, 3) := by decide +kernel
theorem dL_isBuilt_116 : decode cL_isBuilt 116 = .ok (.if_icmp .eq 5, 3) := by decide +kernel
theorem dL_isBuilt_119 : decode cL_isBuilt 119 = .ok (.iconst 0, 1) := by decide +kernel
theorem dL_isBuilt_120 : decode cL_isBuilt 120 = .ok (.ireturn, 1) := by decide +kernel
theorem dL_isBuilt_121 : decode cL_isBuilt 121 = .ok (.iload 5, 2) := by decide +kernel
theorem dL_isBuilt_123 : decode cL_isBuilt 123 = .ok (.ifCond .ne 6, 3) := by decide +kernel
theorem dL_isBuilt_126 : decode cL_isBuilt 126 = .ok (.goto 40, 3) := by decide +kernel
theorem dL_isBuilt_129 : decode cL_isBuilt 129 = .ok (.aload_n 0, 1) := by decide +kernel
theorem dL_isBuilt_130 : decode cL_isBuilt 130 = .ok (.iload_n 2, 1) := by decide +kernel
theorem dL_isBuilt_131 : decode cL_isBuilt 131 = .ok (.iconst 1, 1) := by decide +kernel
theorem dL_isBuilt_132 : decode cL_isBuilt 132 = .ok (.invokevirtual 66, 3) := by decide +kernel
theorem dL_isBuilt_135 : decode cL_isBuilt 135 = .ok (.iload_n 3, 1) := by decide +kernel
theorem dL_isBuilt_136 : decode cL_isBuilt 136 = .ok (.if_icmp .ne 25, 3) := by decide +kernel
theorem dL_isBuilt_139 : decode cL_isBuilt 139 = .ok (.aload_n 0, 1) := by decide +kernel
theorem dL_isBuilt_140 : decode cL_isBuilt 140 = .ok (.iload_n 2, 1) := by decide +kernel
theorem dL_isBuilt_141 : decode cL_isBuilt 141 = .ok (.iconst 2, 1) := by decide +kernel
theorem dL_isBuilt_142 : decode cL_isBuilt 142 = .ok (.invokevirtual 66, 3) := by decide +kernel
theorem dL_isBuilt_145 : decode cL_isBuilt 145 = .ok (.iload 4, 2) := by decide +kernel
theorem dL_isBuilt_147 : decode cL_isBuilt 147 = .ok (.if_icmp .ne 14, 3) := by decide +kernel
theorem dL_isBuilt_150 : decode cL_isBuilt 150 = .ok (.aload_n 0, 1) := by decide +kernel
theorem dL_isBuilt_151 : decode cL_isBuilt 151 = .ok (.iload_n 2, 1) := by decide +kernel
theorem dL_isBuilt_152 : decode cL_isBuilt 152 = .ok (.iconst 0, 1) := by decide +kernel
theorem dL_isBuilt_153 : decode cL_isBuilt 153 = .ok (.invokevirtual 66, 3) := by decide +kernel
theorem dL_isBuilt_156 : decode cL_isBuilt 156 = .ok (.iload 5, 2) := by decide +kernel
theorem dL_isBuilt_158 : decode cL_isBuilt 158 = .ok (.if_icmp .eq 5, 3) := by decide +kernel
theorem dL_isBuilt_161 : decode cL_isBuilt 161 = .ok (.iconst 0, 1) := by decide +kernel
theorem dL_isBuilt_162 : decode cL_isBuilt 162 = .ok (.ireturn, 1) := by decide +kernel
theorem dL_isBuilt_163 : decode cL_isBuilt 163 = .ok (.iinc 2 1, 3) := by decide +kernel
theorem dL_isBuilt_166 : decode cL_isBuilt 166 = .ok (.iinc 4 1, 3) := by decide +kernel
theorem dL_isBuilt_169 : decode cL_isBuilt 169 = .ok (.goto (-157), 3) := by decide +kernel
theorem dL_isBuilt_172 : decode cL_isBuilt 172 = .ok (.iinc 3 1, 3) := by decide +kernel
theorem dL_isBuilt_175 : decode cL_isBuilt 175 = .ok (.goto (-171), 3) := by decide +kernel
theorem dL_isBuilt_178 : decode cL_isBuilt 178 = .ok (.aload_n 0, 1) := by decide +kernel
theorem dL_isBuilt_179 : decode cL_isBuilt 179 = .ok (.iconst 5, 1) := by decide +kernel
theorem dL_isBuilt_180 : decode cL_isBuilt 180 = .ok (.invokevirtual 37, 3) := by decide +kernel
theorem dL_isBuilt_183 : decode cL_isBuilt 183 = .ok (.iload_n 2, 1) := by decide +kernel
theorem dL_isBuilt_184 : decode cL_isBuilt 184 = .ok (.if_icmp .ne 7, 3) := by decide +kernel
theorem dL_isBuilt_187 : decode cL_isBuilt 187 = .ok (.iconst 1, 1) := by decide +kernel
theorem dL_isBuilt_188 : decode cL_isBuilt 188 = .ok (.goto 4, 3) := by decide +kernel
theorem dL_isBuilt_191 : decode cL_isBuilt 191 = .ok (.iconst 0, 1) := by decide +kernel
theorem dL_isBuilt_192 : decode cL_isBuilt 192 = .ok (.ireturn, 1) := by decide +kernel
theorem dL_edit_0 : decode cL_edit 0 = .ok (.iload_n 2, 1) := by decide +kernel
theorem dL_edit_1 : decode cL_edit 1 = .ok (.iload_n 1, 1) := by decide +kernel
theorem dL_edit_2 : decode cL_edit 2 = .ok (.invokestatic 18, 3) := by decide +kernel
theorem dL_edit_5 : decode cL_edit 5 = .ok (.istore 4, 2) := by decide +kernel
theorem dL_edit_7 : decode cL_edit 7 = .ok (.iload_n 3, 1) := by decide +kernel
theorem dL_edit_8 : decode cL_edit 8 = .ok (.bipush 8, 2) := by decide +kernel
theorem dL_edit_10 : decode cL_edit 10 = .ok (.invokestatic 18, 3) := by decide +kernel
theorem dL_edit_13 : decode cL_edit 13 = .ok (.istore 5, 2) := by decide +kernel
theorem dL_edit_15 : decode cL_edit 15 = .ok (.iload_n 3, 1) := by decide +kernel
theorem dL_edit_16 : decode cL_edit 16 = .ok (.bipush 6, 2) := by decide +kernel
theorem dL_edit_18 : decode cL_edit 18 = .ok (.ishr, 1) := by decide +kernel
theorem dL_edit_19 : decode cL_edit 19 = .ok (.bipush 8, 2) := by decide +kernel
theorem dL_edit_21 : decode cL_edit 21 = .ok (.invokestatic 18, 3) := by decide +kernel
theorem dL_edit_24 : decode cL_edit 24 = .ok (.istore 6, 2) := by decide +kernel
theorem dL_edit_26 : decode cL_edit 26 = .ok (.iload_n 2, 1) := by decide +kernel
theorem dL_edit_27 : decode cL_edit 27 = .ok (.iconst 3, 1) := by decide +kernel
theorem dL_edit_28 : decode cL_edit 28 = .ok (.ishr, 1) := by decide +kernel
theorem dL_edit_29 : decode cL_edit 29 = .ok (.bipush 7, 2) := by decide +kernel
theorem dL_edit_31 : decode cL_edit 31 = .ok (.invokestatic 18, 3) := by decide +kernel
theorem dL_edit_34 : decode cL_edit 34 = .ok (.tableswitch 190 0 3 #[30, 79, 105, 105], 30) := by decide +kernel
theorem dL_edit_64 : decode cL_edit 64 = .ok (.aload_n 0, 1) := by decide +kernel
theorem dL_edit_65 : decode cL_edit 65 = .ok (.iload 4, 2) := by decide +kernel
theorem dL_edit_67 : decode cL_edit 67 = .ok (.iconst 0, 1) := by decide +kernel
theorem dL_edit_68 : decode cL_edit 68 = .ok (.invokevirtual 69, 3) := by decide +kernel
theorem dL_edit_71 : decode cL_edit 71 = .ok (.istore 7, 2) := by decide +kernel
theorem dL_edit_73 : decode cL_edit 73 = .ok (.aload_n 0, 1) := by decide +kernel
theorem dL_edit_74 : decode cL_edit 74 = .ok (.iload 4, 2) := by decide +kernel
theorem dL_edit_76 : decode cL_edit 76 = .ok (.iload 5, 2) := by decide +kernel
theorem dL_edit_78 : decode cL_edit 78 = .ok (.invokevirtual 72, 3) := by decide +kernel
theorem dL_edit_81 : decode cL_edit 81 = .ok (.ifCond .eq 10, 3) := by decide +kernel
theorem dL_edit_84 : decode cL_edit 84 = .ok (.iload 7, 2) := by decide +kernel
theorem dL_edit_86 : decode cL_edit 86 = .ok (.iconst 1, 1) := by decide +kernel
theorem dL_edit_87 : decode cL_edit 87 = .ok (.isub, 1) := by decide +kernel
theorem dL_edit_88 : decode cL_edit 88 = .ok (.goto 5, 3) := by decide +kernel
theorem dL_edit_91 : decode cL_edit 91 = .ok (.iload 7, 2) := by decide +kernel
theorem dL_edit_93 : decode cL_edit 93 = .ok (.istore 8, 2) := by decide +kernel
theorem dL_edit_95 : decode cL_edit 95 = .ok (.aload_n 0, 1) := by decide +kernel
theorem dL_edit_96 : decode cL_edit 96 = .ok (.iload 4, 2) := by decide +kernel
theorem dL_edit_98 : decode cL_edit 98 = .ok (.iconst 0, 1) := by decide +kernel
theorem dL_edit_99 : decode cL_edit 99 = .ok (.invokevirtual 69, 3) := by decide +kernel
theorem dL_edit_102 : decode cL_edit 102 = .ok (.iload 8, 2) := by decide +kernel
theorem dL_edit_104 : decode cL_edit 104 = .ok (.if_icmp .ne 7, 3) := by decide +kernel
theorem dL_edit_107 : decode cL_edit 107 = .ok (.iconst 1, 1) := by decide +kernel
theorem dL_edit_108 : decode cL_edit 108 = .ok (.goto 4, 3) := by decide +kernel
theorem dL_edit_111 : decode cL_edit 111 = .ok (.iconst 0, 1) := by decide +kernel
theorem dL_edit_112 : decode cL_edit 112 = .ok (.ireturn, 1) := by decide +kernel
theorem dL_edit_113 : decode cL_edit 113 = .ok (.aload_n 0, 1) := by decide +kernel
theorem dL_edit_114 : decode cL_edit 114 = .ok (.iload 4, 2) := by decide +kernel
theorem dL_edit_116 : decode cL_edit 116 = .ok (.iconst 1, 1) := by decide +kernel
theorem dL_edit_117 : decode cL_edit 117 = .ok (.invokevirtual 69, 3) := by decide +kernel
theorem dL_edit_120 : decode cL_edit 120 = .ok (.ifCond .eq 13, 3) := by decide +kernel
theorem dL_edit_123 : decode cL_edit 123 = .ok (.aload_n 0, 1) := by decide +kernel
theorem dL_edit_124 : decode cL_edit 124 = .ok (.iload 4, 2) := by decide +kernel
theorem dL_edit_126 : decode cL_edit 126 = .ok (.iconst 0, 1) := by decide +kernel
theorem dL_edit_127 : decode cL_edit 127 = .ok (.invokevirtual 76, 3) := by decide +kernel
theorem dL_edit_130 : decode cL_edit 130 = .ok (.ifCond .lt 7, 3) := by decide +kernel
theorem dL_edit_133 : decode cL_edit 133 = .ok (.iconst 1, 1) := by decide +kernel
theorem dL_edit_134 : decode cL_edit 134 = .ok (.goto 4, 3) := by decide +kernel
theorem dL_edit_137 : decode cL_edit 137 = .ok (.iconst 0, 1) := by decide +kernel
theorem dL_edit_138 : decode cL_edit 138 = .ok (.ireturn, 1) := by decide +kernel
theorem dL_edit_139 : decode cL_edit 139 = .ok (.iload 6, 2) := by decide +kernel
theorem dL_edit_141 : decode cL_edit 141 = .ok (.iload 4, 2) := by decide +kernel
theorem dL_edit_143 : decode cL_edit 143 = .ok (.if_icmp .eq 75, 3) := by decide +kernel
theorem dL_edit_146 : decode cL_edit 146 = .ok (.aload_n 0, 1) := by decide +kernel
theorem dL_edit_147 : decode cL_edit 147 = .ok (.iload 4, 2) := by decide +kernel
theorem dL_edit_149 : decode cL_edit 149 = .ok (.iconst 1, 1) := by decide +kernel
theorem dL_edit_150 : decode cL_edit 150 = .ok (.invokevirtual 69, 3) := by decide +kernel
theorem dL_edit_153 : decode cL_edit 153 = .ok (.iconst 5, 1) := by decide +kernel
theorem dL_edit_154 : decode cL_edit 154 = .ok (.if_icmp .eq 64, 3) := by decide +kernel
theorem dL_edit_157 : decode cL_edit 157 = .ok (.aload_n 0, 1) := by decide +kernel
theorem dL_edit_158 : decode cL_edit 158 = .ok (.iload 4, 2) := by decide +kernel
theorem dL_edit_160 : decode cL_edit 160 = .ok (.iload 6, 2) := by decide +kernel
theorem dL_edit_162 : decode cL_edit 162 = .ok (.iload_n 3, 1) := by decide +kernel
theorem dL_edit_163 : decode cL_edit 163 = .ok (.iconst 3, 1) := by decide +kernel
theorem dL_edit_164 : decode cL_edit 164 = .ok (.invokestatic 18, 3) := by decide +kernel
theorem dL_edit_167 : decode cL_edit 167 = .ok (.ifCond .ne 7, 3) := by decide +kernel
theorem dL_edit_170 : decode cL_edit 170 = .ok (.iconst (-1), 1) := by decide +kernel
theorem dL_edit_171 : decode cL_edit 171 = .ok (.goto 12, 3) := by decide +kernel
theorem dL_edit_174 : decode cL_edit 174 = .ok (.iload_n 3, 1) := by decide +kernel
theorem dL_edit_175 : decode cL_edit 175 = .ok (.bipush 9, 2) := by decide +kernel
theorem dL_edit_177 : decode cL_edit 177 = .ok (.ishr, 1) := by decide +kernel
theorem dL_edit_178 : decode cL_edit 178 = .ok (.bipush 8, 2) := by decide +kernel
theorem dL_edit_180 : decode cL_edit 180 = .ok (.invokestatic 18, 3) := by decide +kernel
theorem dL_edit_183 : decode cL_edit 183 = .ok (.iload_n 3, 1) := by decide +kernel
theorem dL_edit_184 : decode cL_edit 184 = .ok (.iconst 3, 1) := by decide +kernel
theorem dL_edit_185 : decode cL_edit 185 = .ok (.invokestatic 18, 3) := by decide +kernel
theorem dL_edit_188 : decode cL_edit 188 = .ok (.ifCond .ne 7, 3) := by decide +kernel
theorem dL_edit_191 : decode cL_edit 191 = .ok (.iconst 0, 1) := by decide +kernel
theorem dL_edit_192 : decode cL_edit 192 = .ok (.goto 5, 3) := by decide +kernel
theorem dL_edit_195 : decode cL_edit 195 = .ok (.iload 5, 2) := by decide +kernel
theorem dL_edit_197 : decode cL_edit 197 = .ok (.iload_n 3, 1) := by decide +kernel
theorem dL_edit_198 : decode cL_edit 198 = .ok (.iconst 3, 1) := by decide +kernel
theorem dL_edit_199 : decode cL_edit 199 = .ok (.ishr, 1) := by decide +kernel
theorem dL_edit_200 : decode cL_edit 200 = .ok (.iconst 2, 1) := by decide +kernel
theorem dL_edit_201 : decode cL_edit 201 = .ok (.invokestatic 18, 3) := by decide +kernel
theorem dL_edit_204 : decode cL_edit 204 = .ok (.ifCond .ne 7, 3) := by decide +kernel
theorem dL_edit_207 : decode cL_edit 207 = .ok (.iconst 1, 1) := by decide +kernel
theorem dL_edit_208 : decode cL_edit 208 = .ok (.goto 4, 3) := by decide +kernel
theorem dL_edit_211 : decode cL_edit 211 = .ok (.iconst 0, 1) := by decide +kernel
theorem dL_edit_212 : decode cL_edit 212 = .ok (.invokevirtual 79, 3) := by decide +kernel
theorem dL_edit_215 : decode cL_edit 215 = .ok (.ifCond .lt 7, 3) := by decide +kernel
theorem dL_edit_218 : decode cL_edit 218 = .ok (.iconst 1, 1) := by decide +kernel
theorem dL_edit_219 : decode cL_edit 219 = .ok (.goto 4, 3) := by decide +kernel
theorem dL_edit_222 : decode cL_edit 222 = .ok (.iconst 0, 1) := by decide +kernel
theorem dL_edit_223 : decode cL_edit 223 = .ok (.ireturn, 1) := by decide +kernel
theorem dL_edit_224 : decode cL_edit 224 = .ok (.aload_n 0, 1) := by decide +kernel
theorem dL_edit_225 : decode cL_edit 225 = .ok (.iload 4, 2) := by decide +kernel
theorem dL_edit_227 : decode cL_edit 227 = .ok (.iconst 0, 1) := by decide +kernel
theorem dL_edit_228 : decode cL_edit 228 = .ok (.invokevirtual 69, 3) := by decide +kernel
theorem dL_edit_231 : decode cL_edit 231 = .ok (.bipush 6, 2) := by decide +kernel
