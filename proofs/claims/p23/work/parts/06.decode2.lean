theorem dX3_tellAnswers_97 : decode cX3_tellAnswers 97 = .ok (.iinc 2 1, 3) := by decide +kernel
theorem dX3_tellAnswers_100 : decode cX3_tellAnswers 100 = .ok (.goto (-98), 3) := by decide +kernel
theorem dX3_tellAnswers_103 : decode cX3_tellAnswers 103 = .ok (.return_, 1) := by decide +kernel
theorem dX4_init_0 : decode cX4_init 0 = .ok (.aload_n 0, 1) := by decide +kernel
theorem dX4_init_1 : decode cX4_init 1 = .ok (.invokespecial 3, 3) := by decide +kernel
theorem dX4_init_4 : decode cX4_init 4 = .ok (.aload_n 0, 1) := by decide +kernel
theorem dX4_init_5 : decode cX4_init 5 = .ok (.sipush 128, 3) := by decide +kernel
theorem dX4_init_8 : decode cX4_init 8 = .ok (.newarray .int, 2) := by decide +kernel
theorem dX4_init_10 : decode cX4_init 10 = .ok (.putfield 9, 3) := by decide +kernel
theorem dX4_init_13 : decode cX4_init 13 = .ok (.aload_n 0, 1) := by decide +kernel
theorem dX4_init_14 : decode cX4_init 14 = .ok (.sipush 128, 3) := by decide +kernel
theorem dX4_init_17 : decode cX4_init 17 = .ok (.newarray .int, 2) := by decide +kernel
theorem dX4_init_19 : decode cX4_init 19 = .ok (.putfield 15, 3) := by decide +kernel
theorem dX4_init_22 : decode cX4_init 22 = .ok (.aload_n 0, 1) := by decide +kernel
theorem dX4_init_23 : decode cX4_init 23 = .ok (.bipush 64, 2) := by decide +kernel
theorem dX4_init_25 : decode cX4_init 25 = .ok (.newarray .int, 2) := by decide +kernel
theorem dX4_init_27 : decode cX4_init 27 = .ok (.putfield 18, 3) := by decide +kernel
theorem dX4_init_30 : decode cX4_init 30 = .ok (.aload_n 0, 1) := by decide +kernel
theorem dX4_init_31 : decode cX4_init 31 = .ok (.sipush 128, 3) := by decide +kernel
theorem dX4_init_34 : decode cX4_init 34 = .ok (.newarray .int, 2) := by decide +kernel
theorem dX4_init_36 : decode cX4_init 36 = .ok (.putfield 21, 3) := by decide +kernel
theorem dX4_init_39 : decode cX4_init 39 = .ok (.aload_n 0, 1) := by decide +kernel
theorem dX4_init_40 : decode cX4_init 40 = .ok (.sipush 128, 3) := by decide +kernel
theorem dX4_init_43 : decode cX4_init 43 = .ok (.newarray .int, 2) := by decide +kernel
theorem dX4_init_45 : decode cX4_init 45 = .ok (.putfield 24, 3) := by decide +kernel
theorem dX4_init_48 : decode cX4_init 48 = .ok (.aload_n 0, 1) := by decide +kernel
theorem dX4_init_49 : decode cX4_init 49 = .ok (.bipush 8, 2) := by decide +kernel
theorem dX4_init_51 : decode cX4_init 51 = .ok (.newarray .int, 2) := by decide +kernel
theorem dX4_init_53 : decode cX4_init 53 = .ok (.putfield 27, 3) := by decide +kernel
theorem dX4_init_56 : decode cX4_init 56 = .ok (.aload_n 0, 1) := by decide +kernel
theorem dX4_init_57 : decode cX4_init 57 = .ok (.bipush 8, 2) := by decide +kernel
theorem dX4_init_59 : decode cX4_init 59 = .ok (.newarray .int, 2) := by decide +kernel
theorem dX4_init_61 : decode cX4_init 61 = .ok (.putfield 30, 3) := by decide +kernel
theorem dX4_init_64 : decode cX4_init 64 = .ok (.aload_n 0, 1) := by decide +kernel
theorem dX4_init_65 : decode cX4_init 65 = .ok (.aload_n 1, 1) := by decide +kernel
theorem dX4_init_66 : decode cX4_init 66 = .ok (.putfield 33, 3) := by decide +kernel
theorem dX4_init_69 : decode cX4_init 69 = .ok (.return_, 1) := by decide +kernel
theorem dX4_settle_0 : decode cX4_settle 0 = .ok (.aload_n 0, 1) := by decide +kernel
theorem dX4_settle_1 : decode cX4_settle 1 = .ok (.invokevirtual 37, 3) := by decide +kernel
theorem dX4_settle_4 : decode cX4_settle 4 = .ok (.aload_n 0, 1) := by decide +kernel
theorem dX4_settle_5 : decode cX4_settle 5 = .ok (.invokevirtual 40, 3) := by decide +kernel
theorem dX4_settle_8 : decode cX4_settle 8 = .ok (.aload_n 0, 1) := by decide +kernel
theorem dX4_settle_9 : decode cX4_settle 9 = .ok (.getfield 18, 3) := by decide +kernel
theorem dX4_settle_12 : decode cX4_settle 12 = .ok (.iconst 0, 1) := by decide +kernel
theorem dX4_settle_13 : decode cX4_settle 13 = .ok (.invokestatic 43, 3) := by decide +kernel
theorem dX4_settle_16 : decode cX4_settle 16 = .ok (.iconst 0, 1) := by decide +kernel
theorem dX4_settle_17 : decode cX4_settle 17 = .ok (.istore_n 1, 1) := by decide +kernel
theorem dX4_settle_18 : decode cX4_settle 18 = .ok (.iload_n 1, 1) := by decide +kernel
theorem dX4_settle_19 : decode cX4_settle 19 = .ok (.aload_n 0, 1) := by decide +kernel
theorem dX4_settle_20 : decode cX4_settle 20 = .ok (.getfield 33, 3) := by decide +kernel
theorem dX4_settle_23 : decode cX4_settle 23 = .ok (.getfield 49, 3) := by decide +kernel
theorem dX4_settle_26 : decode cX4_settle 26 = .ok (.bipush 16, 2) := by decide +kernel
theorem dX4_settle_28 : decode cX4_settle 28 = .ok (.imul, 1) := by decide +kernel
theorem dX4_settle_29 : decode cX4_settle 29 = .ok (.if_icmp .ge 55, 3) := by decide +kernel
theorem dX4_settle_32 : decode cX4_settle 32 = .ok (.aload_n 0, 1) := by decide +kernel
theorem dX4_settle_33 : decode cX4_settle 33 = .ok (.getfield 15, 3) := by decide +kernel
theorem dX4_settle_36 : decode cX4_settle 36 = .ok (.iload_n 1, 1) := by decide +kernel
theorem dX4_settle_37 : decode cX4_settle 37 = .ok (.aload_n 0, 1) := by decide +kernel
theorem dX4_settle_38 : decode cX4_settle 38 = .ok (.getfield 33, 3) := by decide +kernel
theorem dX4_settle_41 : decode cX4_settle 41 = .ok (.iload_n 1, 1) := by decide +kernel
theorem dX4_settle_42 : decode cX4_settle 42 = .ok (.invokevirtual 55, 3) := by decide +kernel
theorem dX4_settle_45 : decode cX4_settle 45 = .ok (.ifCond .eq 7, 3) := by decide +kernel
theorem dX4_settle_48 : decode cX4_settle 48 = .ok (.iload_n 1, 1) := by decide +kernel
theorem dX4_settle_49 : decode cX4_settle 49 = .ok (.goto 23, 3) := by decide +kernel
theorem dX4_settle_52 : decode cX4_settle 52 = .ok (.aload_n 0, 1) := by decide +kernel
theorem dX4_settle_53 : decode cX4_settle 53 = .ok (.iload_n 1, 1) := by decide +kernel
theorem dX4_settle_54 : decode cX4_settle 54 = .ok (.aload_n 0, 1) := by decide +kernel
theorem dX4_settle_55 : decode cX4_settle 55 = .ok (.getfield 21, 3) := by decide +kernel
theorem dX4_settle_58 : decode cX4_settle 58 = .ok (.iload_n 1, 1) := by decide +kernel
theorem dX4_settle_59 : decode cX4_settle 59 = .ok (.iaload, 1) := by decide +kernel
theorem dX4_settle_60 : decode cX4_settle 60 = .ok (.aload_n 0, 1) := by decide +kernel
theorem dX4_settle_61 : decode cX4_settle 61 = .ok (.getfield 27, 3) := by decide +kernel
theorem dX4_settle_64 : decode cX4_settle 64 = .ok (.iload_n 1, 1) := by decide +kernel
theorem dX4_settle_65 : decode cX4_settle 65 = .ok (.bipush 16, 2) := by decide +kernel
theorem dX4_settle_67 : decode cX4_settle 67 = .ok (.idiv, 1) := by decide +kernel
theorem dX4_settle_68 : decode cX4_settle 68 = .ok (.iaload, 1) := by decide +kernel
theorem dX4_settle_69 : decode cX4_settle 69 = .ok (.invokevirtual 59, 3) := by decide +kernel
theorem dX4_settle_72 : decode cX4_settle 72 = .ok (.iastore, 1) := by decide +kernel
theorem dX4_settle_73 : decode cX4_settle 73 = .ok (.aload_n 0, 1) := by decide +kernel
theorem dX4_settle_74 : decode cX4_settle 74 = .ok (.iload_n 1, 1) := by decide +kernel
theorem dX4_settle_75 : decode cX4_settle 75 = .ok (.invokevirtual 63, 3) := by decide +kernel
theorem dX4_settle_78 : decode cX4_settle 78 = .ok (.iinc 1 1, 3) := by decide +kernel
theorem dX4_settle_81 : decode cX4_settle 81 = .ok (.goto (-63), 3) := by decide +kernel
theorem dX4_settle_84 : decode cX4_settle 84 = .ok (.return_, 1) := by decide +kernel
theorem dX4_settleImports_0 : decode cX4_settleImports 0 = .ok (.aload_n 0, 1) := by decide +kernel
theorem dX4_settleImports_1 : decode cX4_settleImports 1 = .ok (.getfield 21, 3) := by decide +kernel
theorem dX4_settleImports_4 : decode cX4_settleImports 4 = .ok (.iconst (-1), 1) := by decide +kernel
theorem dX4_settleImports_5 : decode cX4_settleImports 5 = .ok (.invokestatic 43, 3) := by decide +kernel
theorem dX4_settleImports_8 : decode cX4_settleImports 8 = .ok (.aload_n 0, 1) := by decide +kernel
theorem dX4_settleImports_9 : decode cX4_settleImports 9 = .ok (.getfield 24, 3) := by decide +kernel
theorem dX4_settleImports_12 : decode cX4_settleImports 12 = .ok (.iconst (-1), 1) := by decide +kernel
theorem dX4_settleImports_13 : decode cX4_settleImports 13 = .ok (.invokestatic 43, 3) := by decide +kernel
theorem dX4_settleImports_16 : decode cX4_settleImports 16 = .ok (.aload_n 0, 1) := by decide +kernel
theorem dX4_settleImports_17 : decode cX4_settleImports 17 = .ok (.getfield 27, 3) := by decide +kernel
theorem dX4_settleImports_20 : decode cX4_settleImports 20 = .ok (.iconst 0, 1) := by decide +kernel
theorem dX4_settleImports_21 : decode cX4_settleImports 21 = .ok (.invokestatic 43, 3) := by decide +kernel
theorem dX4_settleImports_24 : decode cX4_settleImports 24 = .ok (.aload_n 0, 1) := by decide +kernel
theorem dX4_settleImports_25 : decode cX4_settleImports 25 = .ok (.getfield 30, 3) := by decide +kernel
theorem dX4_settleImports_28 : decode cX4_settleImports 28 = .ok (.iconst 0, 1) := by decide +kernel
theorem dX4_settleImports_29 : decode cX4_settleImports 29 = .ok (.invokestatic 43, 3) := by decide +kernel
theorem dX4_settleImports_32 : decode cX4_settleImports 32 = .ok (.iconst 0, 1) := by decide +kernel
theorem dX4_settleImports_33 : decode cX4_settleImports 33 = .ok (.istore_n 1, 1) := by decide +kernel
theorem dX4_settleImports_34 : decode cX4_settleImports 34 = .ok (.iload_n 1, 1) := by decide +kernel
theorem dX4_settleImports_35 : decode cX4_settleImports 35 = .ok (.aload_n 0, 1) := by decide +kernel
theorem dX4_settleImports_36 : decode cX4_settleImports 36 = .ok (.getfield 33, 3) := by decide +kernel
theorem dX4_settleImports_39 : decode cX4_settleImports 39 = .ok (.getfield 49, 3) := by decide +kernel
theorem dX4_settleImports_42 : decode cX4_settleImports 42 = .ok (.if_icmp .ge 45, 3) := by decide +kernel
theorem dX4_settleImports_45 : decode cX4_settleImports 45 = .ok (.aload_n 0, 1) := by decide +kernel
theorem dX4_settleImports_46 : decode cX4_settleImports 46 = .ok (.getfield 33, 3) := by decide +kernel
theorem dX4_settleImports_49 : decode cX4_settleImports 49 = .ok (.getfield 67, 3) := by decide +kernel
theorem dX4_settleImports_52 : decode cX4_settleImports 52 = .ok (.iload_n 1, 1) := by decide +kernel
theorem dX4_settleImports_53 : decode cX4_settleImports 53 = .ok (.iaload, 1) := by decide +kernel
theorem dX4_settleImports_54 : decode cX4_settleImports 54 = .ok (.iconst 1, 1) := by decide +kernel
theorem dX4_settleImports_55 : decode cX4_settleImports 55 = .ok (.isub, 1) := by decide +kernel
theorem dX4_settleImports_56 : decode cX4_settleImports 56 = .ok (.istore_n 2, 1) := by decide +kernel
theorem dX4_settleImports_57 : decode cX4_settleImports 57 = .ok (.iload_n 2, 1) := by decide +kernel
theorem dX4_settleImports_58 : decode cX4_settleImports 58 = .ok (.ifCond .lt 23, 3) := by decide +kernel
theorem dX4_settleImports_61 : decode cX4_settleImports 61 = .ok (.aload_n 0, 1) := by decide +kernel
theorem dX4_settleImports_62 : decode cX4_settleImports 62 = .ok (.iload_n 1, 1) := by decide +kernel
theorem dX4_settleImports_63 : decode cX4_settleImports 63 = .ok (.aload_n 0, 1) := by decide +kernel
theorem dX4_settleImports_64 : decode cX4_settleImports 64 = .ok (.getfield 33, 3) := by decide +kernel
theorem dX4_settleImports_67 : decode cX4_settleImports 67 = .ok (.iload_n 1, 1) := by decide +kernel
theorem dX4_settleImports_68 : decode cX4_settleImports 68 = .ok (.iload_n 2, 1) := by decide +kernel
theorem dX4_settleImports_69 : decode cX4_settleImports 69 = .ok (.invokevirtual 70, 3) := by decide +kernel
theorem dX4_settleImports_72 : decode cX4_settleImports 72 = .ok (.invokevirtual 74, 3) := by decide +kernel
theorem dX4_settleImports_75 : decode cX4_settleImports 75 = .ok (.iinc 2 (-1), 3) := by decide +kernel
theorem dX4_settleImports_78 : decode cX4_settleImports 78 = .ok (.goto (-21), 3) := by decide +kernel
theorem dX4_settleImports_81 : decode cX4_settleImports 81 = .ok (.iinc 1 1, 3) := by decide +kernel
theorem dX4_settleImports_84 : decode cX4_settleImports 84 = .ok (.goto (-50), 3) := by decide +kernel
theorem dX4_settleImports_87 : decode cX4_settleImports 87 = .ok (.return_, 1) := by decide +kernel
theorem dX4_settleImport_0 : decode cX4_settleImport 0 = .ok (.iload_n 2, 1) := by decide +kernel
theorem dX4_settleImport_1 : decode cX4_settleImport 1 = .ok (.invokestatic 78, 3) := by decide +kernel
theorem dX4_settleImport_4 : decode cX4_settleImport 4 = .ok (.istore_n 3, 1) := by decide +kernel
theorem dX4_settleImport_5 : decode cX4_settleImport 5 = .ok (.iload_n 2, 1) := by decide +kernel
theorem dX4_settleImport_6 : decode cX4_settleImport 6 = .ok (.invokestatic 83, 3) := by decide +kernel
theorem dX4_settleImport_9 : decode cX4_settleImport 9 = .ok (.ifCond .eq 42, 3) := by decide +kernel
theorem dX4_settleImport_12 : decode cX4_settleImport 12 = .ok (.aload_n 0, 1) := by decide +kernel
theorem dX4_settleImport_13 : decode cX4_settleImport 13 = .ok (.getfield 27, 3) := by decide +kernel
theorem dX4_settleImport_16 : decode cX4_settleImport 16 = .ok (.iload_n 1, 1) := by decide +kernel
theorem dX4_settleImport_17 : decode cX4_settleImport 17 = .ok (.dup2, 1) := by decide +kernel
theorem dX4_settleImport_18 : decode cX4_settleImport 18 = .ok (.iaload, 1) := by decide +kernel
theorem dX4_settleImport_19 : decode cX4_settleImport 19 = .ok (.iconst 1, 1) := by decide +kernel
theorem dX4_settleImport_20 : decode cX4_settleImport 20 = .ok (.iload_n 2, 1) := by decide +kernel
theorem dX4_settleImport_21 : decode cX4_settleImport 21 = .ok (.invokestatic 86, 3) := by decide +kernel
theorem dX4_settleImport_24 : decode cX4_settleImport 24 = .ok (.ishl, 1) := by decide +kernel
theorem dX4_settleImport_25 : decode cX4_settleImport 25 = .ok (.ior, 1) := by decide +kernel
theorem dX4_settleImport_26 : decode cX4_settleImport 26 = .ok (.iastore, 1) := by decide +kernel
theorem dX4_settleImport_27 : decode cX4_settleImport 27 = .ok (.aload_n 0, 1) := by decide +kernel
theorem dX4_settleImport_28 : decode cX4_settleImport 28 = .ok (.getfield 30, 3) := by decide +kernel
theorem dX4_settleImport_31 : decode cX4_settleImport 31 = .ok (.iload_n 1, 1) := by decide +kernel
theorem dX4_settleImport_32 : decode cX4_settleImport 32 = .ok (.dup2, 1) := by decide +kernel
theorem dX4_settleImport_33 : decode cX4_settleImport 33 = .ok (.iaload, 1) := by decide +kernel
theorem dX4_settleImport_34 : decode cX4_settleImport 34 = .ok (.iload_n 3, 1) := by decide +kernel
theorem dX4_settleImport_35 : decode cX4_settleImport 35 = .ok (.ifCond .eq 12, 3) := by decide +kernel
theorem dX4_settleImport_38 : decode cX4_settleImport 38 = .ok (.iconst 1, 1) := by decide +kernel
theorem dX4_settleImport_39 : decode cX4_settleImport 39 = .ok (.iload_n 2, 1) := by decide +kernel
theorem dX4_settleImport_40 : decode cX4_settleImport 40 = .ok (.invokestatic 86, 3) := by decide +kernel
theorem dX4_settleImport_43 : decode cX4_settleImport 43 = .ok (.ishl, 1) := by decide +kernel
theorem dX4_settleImport_44 : decode cX4_settleImport 44 = .ok (.goto 4, 3) := by decide +kernel
theorem dX4_settleImport_47 : decode cX4_settleImport 47 = .ok (.iconst 0, 1) := by decide +kernel
theorem dX4_settleImport_48 : decode cX4_settleImport 48 = .ok (.ior, 1) := by decide +kernel
theorem dX4_settleImport_49 : decode cX4_settleImport 49 = .ok (.iastore, 1) := by decide +kernel
theorem dX4_settleImport_50 : decode cX4_settleImport 50 = .ok (.return_, 1) := by decide +kernel
theorem dX4_settleImport_51 : decode cX4_settleImport 51 = .ok (.iload_n 1, 1) := by decide +kernel
theorem dX4_settleImport_52 : decode cX4_settleImport 52 = .ok (.bipush 16, 2) := by decide +kernel
theorem dX4_settleImport_54 : decode cX4_settleImport 54 = .ok (.imul, 1) := by decide +kernel
theorem dX4_settleImport_55 : decode cX4_settleImport 55 = .ok (.iload_n 2, 1) := by decide +kernel
theorem dX4_settleImport_56 : decode cX4_settleImport 56 = .ok (.invokestatic 90, 3) := by decide +kernel
theorem dX4_settleImport_59 : decode cX4_settleImport 59 = .ok (.iadd, 1) := by decide +kernel
theorem dX4_settleImport_60 : decode cX4_settleImport 60 = .ok (.istore 4, 2) := by decide +kernel
theorem dX4_settleImport_62 : decode cX4_settleImport 62 = .ok (.aload_n 0, 1) := by decide +kernel
theorem dX4_settleImport_63 : decode cX4_settleImport 63 = .ok (.getfield 21, 3) := by decide +kernel
theorem dX4_settleImport_66 : decode cX4_settleImport 66 = .ok (.iload 4, 2) := by decide +kernel
theorem dX4_settleImport_68 : decode cX4_settleImport 68 = .ok (.iload_n 2, 1) := by decide +kernel
theorem dX4_settleImport_69 : decode cX4_settleImport 69 = .ok (.invokestatic 93, 3) := by decide +kernel
theorem dX4_settleImport_72 : decode cX4_settleImport 72 = .ok (.iastore, 1) := by decide +kernel
theorem dX4_settleImport_73 : decode cX4_settleImport 73 = .ok (.iload_n 3, 1) := by decide +kernel
theorem dX4_settleImport_74 : decode cX4_settleImport 74 = .ok (.ifCond .eq 17, 3) := by decide +kernel
theorem dX4_settleImport_77 : decode cX4_settleImport 77 = .ok (.aload_n 0, 1) := by decide +kernel
theorem dX4_settleImport_78 : decode cX4_settleImport 78 = .ok (.getfield 24, 3) := by decide +kernel
theorem dX4_settleImport_81 : decode cX4_settleImport 81 = .ok (.iload 4, 2) := by decide +kernel
theorem dX4_settleImport_83 : decode cX4_settleImport 83 = .ok (.aload_n 0, 1) := by decide +kernel
theorem dX4_settleImport_84 : decode cX4_settleImport 84 = .ok (.getfield 21, 3) := by decide +kernel
theorem dX4_settleImport_87 : decode cX4_settleImport 87 = .ok (.iload 4, 2) := by decide +kernel
theorem dX4_settleImport_89 : decode cX4_settleImport 89 = .ok (.iaload, 1) := by decide +kernel
theorem dX4_settleImport_90 : decode cX4_settleImport 90 = .ok (.iastore, 1) := by decide +kernel
theorem dX4_settleImport_91 : decode cX4_settleImport 91 = .ok (.return_, 1) := by decide +kernel
theorem dX4_settleOutside_0 : decode cX4_settleOutside 0 = .ok (.aload_n 0, 1) := by decide +kernel
theorem dX4_settleOutside_1 : decode cX4_settleOutside 1 = .ok (.getfield 9, 3) := by decide +kernel
theorem dX4_settleOutside_4 : decode cX4_settleOutside 4 = .ok (.iconst (-1), 1) := by decide +kernel
theorem dX4_settleOutside_5 : decode cX4_settleOutside 5 = .ok (.invokestatic 43, 3) := by decide +kernel
theorem dX4_settleOutside_8 : decode cX4_settleOutside 8 = .ok (.iconst 1, 1) := by decide +kernel
theorem dX4_settleOutside_9 : decode cX4_settleOutside 9 = .ok (.istore_n 1, 1) := by decide +kernel
theorem dX4_settleOutside_10 : decode cX4_settleOutside 10 = .ok (.iconst 0, 1) := by decide +kernel
theorem dX4_settleOutside_11 : decode cX4_settleOutside 11 = .ok (.istore_n 2, 1) := by decide +kernel
theorem dX4_settleOutside_12 : decode cX4_settleOutside 12 = .ok (.iload_n 2, 1) := by decide +kernel
theorem dX4_settleOutside_13 : decode cX4_settleOutside 13 = .ok (.sipush 256, 3) := by decide +kernel
theorem dX4_settleOutside_16 : decode cX4_settleOutside 16 = .ok (.if_icmp .gt 65, 3) := by decide +kernel
theorem dX4_settleOutside_19 : decode cX4_settleOutside 19 = .ok (.iload_n 1, 1) := by decide +kernel
theorem dX4_settleOutside_20 : decode cX4_settleOutside 20 = .ok (.ifCond .eq 61, 3) := by decide +kernel
theorem dX4_settleOutside_23 : decode cX4_settleOutside 23 = .ok (.iconst 0, 1) := by decide +kernel
theorem dX4_settleOutside_24 : decode cX4_settleOutside 24 = .ok (.istore_n 1, 1) := by decide +kernel
theorem dX4_settleOutside_25 : decode cX4_settleOutside 25 = .ok (.iconst 0, 1) := by decide +kernel
theorem dX4_settleOutside_26 : decode cX4_settleOutside 26 = .ok (.istore_n 3, 1) := by decide +kernel
theorem dX4_settleOutside_27 : decode cX4_settleOutside 27 = .ok (.iload_n 3, 1) := by decide +kernel
theorem dX4_settleOutside_28 : decode cX4_settleOutside 28 = .ok (.aload_n 0, 1) := by decide +kernel
theorem dX4_settleOutside_29 : decode cX4_settleOutside 29 = .ok (.getfield 33, 3) := by decide +kernel
theorem dX4_settleOutside_32 : decode cX4_settleOutside 32 = .ok (.getfield 49, 3) := by decide +kernel
theorem dX4_settleOutside_35 : decode cX4_settleOutside 35 = .ok (.bipush 16, 2) := by decide +kernel
theorem dX4_settleOutside_37 : decode cX4_settleOutside 37 = .ok (.imul, 1) := by decide +kernel
theorem dX4_settleOutside_38 : decode cX4_settleOutside 38 = .ok (.if_icmp .ge 37, 3) := by decide +kernel
theorem dX4_settleOutside_41 : decode cX4_settleOutside 41 = .ok (.aload_n 0, 1) := by decide +kernel
theorem dX4_settleOutside_42 : decode cX4_settleOutside 42 = .ok (.iload_n 3, 1) := by decide +kernel
theorem dX4_settleOutside_43 : decode cX4_settleOutside 43 = .ok (.invokevirtual 96, 3) := by decide +kernel
theorem dX4_settleOutside_46 : decode cX4_settleOutside 46 = .ok (.istore 4, 2) := by decide +kernel
theorem dX4_settleOutside_48 : decode cX4_settleOutside 48 = .ok (.iload 4, 2) := by decide +kernel
theorem dX4_settleOutside_50 : decode cX4_settleOutside 50 = .ok (.aload_n 0, 1) := by decide +kernel
theorem dX4_settleOutside_51 : decode cX4_settleOutside 51 = .ok (.getfield 9, 3) := by decide +kernel
theorem dX4_settleOutside_54 : decode cX4_settleOutside 54 = .ok (.iload_n 3, 1) := by decide +kernel
theorem dX4_settleOutside_55 : decode cX4_settleOutside 55 = .ok (.iaload, 1) := by decide +kernel
theorem dX4_settleOutside_56 : decode cX4_settleOutside 56 = .ok (.if_icmp .eq 13, 3) := by decide +kernel
theorem dX4_settleOutside_59 : decode cX4_settleOutside 59 = .ok (.aload_n 0, 1) := by decide +kernel
theorem dX4_settleOutside_60 : decode cX4_settleOutside 60 = .ok (.getfield 9, 3) := by decide +kernel
theorem dX4_settleOutside_63 : decode cX4_settleOutside 63 = .ok (.iload_n 3, 1) := by decide +kernel
theorem dX4_settleOutside_64 : decode cX4_settleOutside 64 = .ok (.iload 4, 2) := by decide +kernel
theorem dX4_settleOutside_66 : decode cX4_settleOutside 66 = .ok (.iastore, 1) := by decide +kernel
theorem dX4_settleOutside_67 : decode cX4_settleOutside 67 = .ok (.iconst 1, 1) := by decide +kernel
theorem dX4_settleOutside_68 : decode cX4_settleOutside 68 = .ok (.istore_n 1, 1) := by decide +kernel
theorem dX4_settleOutside_69 : decode cX4_settleOutside 69 = .ok (.iinc 3 1, 3) := by decide +kernel
theorem dX4_settleOutside_72 : decode cX4_settleOutside 72 = .ok (.goto (-45), 3) := by decide +kernel
theorem dX4_settleOutside_75 : decode cX4_settleOutside 75 = .ok (.iinc 2 1, 3) := by decide +kernel
theorem dX4_settleOutside_78 : decode cX4_settleOutside 78 = .ok (.goto (-66), 3) := by decide +kernel
theorem dX4_settleOutside_81 : decode cX4_settleOutside 81 = .ok (.return_, 1) := by decide +kernel
theorem dX4_lookedUp_0 : decode cX4_lookedUp 0 = .ok (.aload_n 0, 1) := by decide +kernel
theorem dX4_lookedUp_1 : decode cX4_lookedUp 1 = .ok (.getfield 33, 3) := by decide +kernel
theorem dX4_lookedUp_4 : decode cX4_lookedUp 4 = .ok (.iload_n 1, 1) := by decide +kernel
theorem dX4_lookedUp_5 : decode cX4_lookedUp 5 = .ok (.invokevirtual 55, 3) := by decide +kernel
theorem dX4_lookedUp_8 : decode cX4_lookedUp 8 = .ok (.ifCond .eq 24, 3) := by decide +kernel
theorem dX4_lookedUp_11 : decode cX4_lookedUp 11 = .ok (.aload_n 0, 1) := by decide +kernel
theorem dX4_lookedUp_12 : decode cX4_lookedUp 12 = .ok (.getfield 33, 3) := by decide +kernel
theorem dX4_lookedUp_15 : decode cX4_lookedUp 15 = .ok (.getfield 99, 3) := by decide +kernel
theorem dX4_lookedUp_18 : decode cX4_lookedUp 18 = .ok (.iload_n 1, 1) := by decide +kernel
theorem dX4_lookedUp_19 : decode cX4_lookedUp 19 = .ok (.iaload, 1) := by decide +kernel
theorem dX4_lookedUp_20 : decode cX4_lookedUp 20 = .ok (.invokestatic 102, 3) := by decide +kernel
theorem dX4_lookedUp_23 : decode cX4_lookedUp 23 = .ok (.ifCond .eq 7, 3) := by decide +kernel
theorem dX4_lookedUp_26 : decode cX4_lookedUp 26 = .ok (.iload_n 1, 1) := by decide +kernel
theorem dX4_lookedUp_27 : decode cX4_lookedUp 27 = .ok (.goto 4, 3) := by decide +kernel
theorem dX4_lookedUp_30 : decode cX4_lookedUp 30 = .ok (.iconst (-1), 1) := by decide +kernel
theorem dX4_lookedUp_31 : decode cX4_lookedUp 31 = .ok (.ireturn, 1) := by decide +kernel
theorem dX4_lookedUp_32 : decode cX4_lookedUp 32 = .ok (.aload_n 0, 1) := by decide +kernel
theorem dX4_lookedUp_33 : decode cX4_lookedUp 33 = .ok (.iload_n 1, 1) := by decide +kernel
theorem dX4_lookedUp_34 : decode cX4_lookedUp 34 = .ok (.aload_n 0, 1) := by decide +kernel
theorem dX4_lookedUp_35 : decode cX4_lookedUp 35 = .ok (.getfield 24, 3) := by decide +kernel
theorem dX4_lookedUp_38 : decode cX4_lookedUp 38 = .ok (.iload_n 1, 1) := by decide +kernel
theorem dX4_lookedUp_39 : decode cX4_lookedUp 39 = .ok (.iaload, 1) := by decide +kernel
theorem dX4_lookedUp_40 : decode cX4_lookedUp 40 = .ok (.aload_n 0, 1) := by decide +kernel
theorem dX4_lookedUp_41 : decode cX4_lookedUp 41 = .ok (.getfield 30, 3) := by decide +kernel
theorem dX4_lookedUp_44 : decode cX4_lookedUp 44 = .ok (.iload_n 1, 1) := by decide +kernel
theorem dX4_lookedUp_45 : decode cX4_lookedUp 45 = .ok (.bipush 16, 2) := by decide +kernel
theorem dX4_lookedUp_47 : decode cX4_lookedUp 47 = .ok (.idiv, 1) := by decide +kernel
theorem dX4_lookedUp_48 : decode cX4_lookedUp 48 = .ok (.iaload, 1) := by decide +kernel
theorem dX4_lookedUp_49 : decode cX4_lookedUp 49 = .ok (.invokevirtual 59, 3) := by decide +kernel
theorem dX4_lookedUp_52 : decode cX4_lookedUp 52 = .ok (.ireturn, 1) := by decide +kernel
theorem dX4_broughtTo_0 : decode cX4_broughtTo 0 = .ok (.iload_n 2, 1) := by decide +kernel
theorem dX4_broughtTo_1 : decode cX4_broughtTo 1 = .ok (.iconst (-1), 1) := by decide +kernel
theorem dX4_broughtTo_2 : decode cX4_broughtTo 2 = .ok (.if_icmp .eq 10, 3) := by decide +kernel
theorem dX4_broughtTo_5 : decode cX4_broughtTo 5 = .ok (.aload_n 0, 1) := by decide +kernel
theorem dX4_broughtTo_6 : decode cX4_broughtTo 6 = .ok (.getfield 9, 3) := by decide +kernel
theorem dX4_broughtTo_9 : decode cX4_broughtTo 9 = .ok (.iload_n 2, 1) := by decide +kernel
theorem dX4_broughtTo_10 : decode cX4_broughtTo 10 = .ok (.iaload, 1) := by decide +kernel
theorem dX4_broughtTo_11 : decode cX4_broughtTo 11 = .ok (.ireturn, 1) := by decide +kernel
theorem dX4_broughtTo_12 : decode cX4_broughtTo 12 = .ok (.iconst (-1), 1) := by decide +kernel
theorem dX4_broughtTo_13 : decode cX4_broughtTo 13 = .ok (.istore 4, 2) := by decide +kernel
theorem dX4_broughtTo_15 : decode cX4_broughtTo 15 = .ok (.iconst 0, 1) := by decide +kernel
theorem dX4_broughtTo_16 : decode cX4_broughtTo 16 = .ok (.istore 5, 2) := by decide +kernel
theorem dX4_broughtTo_18 : decode cX4_broughtTo 18 = .ok (.iload 5, 2) := by decide +kernel
theorem dX4_broughtTo_20 : decode cX4_broughtTo 20 = .ok (.bipush 8, 2) := by decide +kernel
theorem dX4_broughtTo_22 : decode cX4_broughtTo 22 = .ok (.if_icmp .ge 44, 3) := by decide +kernel
theorem dX4_broughtTo_25 : decode cX4_broughtTo 25 = .ok (.iload_n 3, 1) := by decide +kernel
theorem dX4_broughtTo_26 : decode cX4_broughtTo 26 = .ok (.ifCond .eq 40, 3) := by decide +kernel
theorem dX4_broughtTo_29 : decode cX4_broughtTo 29 = .ok (.iload_n 3, 1) := by decide +kernel
theorem dX4_broughtTo_30 : decode cX4_broughtTo 30 = .ok (.iload 5, 2) := by decide +kernel
theorem dX4_broughtTo_32 : decode cX4_broughtTo 32 = .ok (.invokestatic 107, 3) := by decide +kernel
theorem dX4_broughtTo_35 : decode cX4_broughtTo 35 = .ok (.ifCond .eq 25, 3) := by decide +kernel
theorem dX4_broughtTo_38 : decode cX4_broughtTo 38 = .ok (.iload 4, 2) := by decide +kernel
theorem dX4_broughtTo_40 : decode cX4_broughtTo 40 = .ok (.aload_n 0, 1) := by decide +kernel
theorem dX4_broughtTo_41 : decode cX4_broughtTo 41 = .ok (.getfield 9, 3) := by decide +kernel
theorem dX4_broughtTo_44 : decode cX4_broughtTo 44 = .ok (.iload 5, 2) := by decide +kernel
theorem dX4_broughtTo_46 : decode cX4_broughtTo 46 = .ok (.bipush 16, 2) := by decide +kernel
theorem dX4_broughtTo_48 : decode cX4_broughtTo 48 = .ok (.imul, 1) := by decide +kernel
theorem dX4_broughtTo_49 : decode cX4_broughtTo 49 = .ok (.iload_n 1, 1) := by decide +kernel
theorem dX4_broughtTo_50 : decode cX4_broughtTo 50 = .ok (.bipush 16, 2) := by decide +kernel
theorem dX4_broughtTo_52 : decode cX4_broughtTo 52 = .ok (.irem, 1) := by decide +kernel
theorem dX4_broughtTo_53 : decode cX4_broughtTo 53 = .ok (.iadd, 1) := by decide +kernel
theorem dX4_broughtTo_54 : decode cX4_broughtTo 54 = .ok (.iaload, 1) := by decide +kernel
theorem dX4_broughtTo_55 : decode cX4_broughtTo 55 = .ok (.invokestatic 113, 3) := by decide +kernel
theorem dX4_broughtTo_58 : decode cX4_broughtTo 58 = .ok (.istore 4, 2) := by decide +kernel
theorem dX4_broughtTo_60 : decode cX4_broughtTo 60 = .ok (.iinc 5 1, 3) := by decide +kernel
theorem dX4_broughtTo_63 : decode cX4_broughtTo 63 = .ok (.goto (-45), 3) := by decide +kernel
theorem dX4_broughtTo_66 : decode cX4_broughtTo 66 = .ok (.iload 4, 2) := by decide +kernel
theorem dX4_broughtTo_68 : decode cX4_broughtTo 68 = .ok (.ireturn, 1) := by decide +kernel
theorem dX4_joined_0 : decode cX4_joined 0 = .ok (.iload_n 0, 1) := by decide +kernel
theorem dX4_joined_1 : decode cX4_joined 1 = .ok (.iconst (-1), 1) := by decide +kernel
theorem dX4_joined_2 : decode cX4_joined 2 = .ok (.if_icmp .ne 5, 3) := by decide +kernel
theorem dX4_joined_5 : decode cX4_joined 5 = .ok (.iload_n 1, 1) := by decide +kernel
theorem dX4_joined_6 : decode cX4_joined 6 = .ok (.ireturn, 1) := by decide +kernel
theorem dX4_joined_7 : decode cX4_joined 7 = .ok (.iload_n 1, 1) := by decide +kernel
theorem dX4_joined_8 : decode cX4_joined 8 = .ok (.iconst (-1), 1) := by decide +kernel
theorem dX4_joined_9 : decode cX4_joined 9 = .ok (.if_icmp .eq 8, 3) := by decide +kernel
theorem dX4_joined_12 : decode cX4_joined 12 = .ok (.iload_n 1, 1) := by decide +kernel
theorem dX4_joined_13 : decode cX4_joined 13 = .ok (.iload_n 0, 1) := by decide +kernel
theorem dX4_joined_14 : decode cX4_joined 14 = .ok (.if_icmp .ne 7, 3) := by decide +kernel
theorem dX4_joined_17 : decode cX4_joined 17 = .ok (.iload_n 0, 1) := by decide +kernel
theorem dX4_joined_18 : decode cX4_joined 18 = .ok (.goto 5, 3) := by decide +kernel
theorem dX4_joined_21 : decode cX4_joined 21 = .ok (.bipush (-2), 2) := by decide +kernel
theorem dX4_joined_23 : decode cX4_joined 23 = .ok (.ireturn, 1) := by decide +kernel
theorem dX4_wantReferences_0 : decode cX4_wantReferences 0 = .ok (.aload_n 0, 1) := by decide +kernel
theorem dX4_wantReferences_1 : decode cX4_wantReferences 1 = .ok (.getfield 33, 3) := by decide +kernel
theorem dX4_wantReferences_4 : decode cX4_wantReferences 4 = .ok (.iload_n 1, 1) := by decide +kernel
theorem dX4_wantReferences_5 : decode cX4_wantReferences 5 = .ok (.invokevirtual 55, 3) := by decide +kernel
theorem dX4_wantReferences_8 : decode cX4_wantReferences 8 = .ok (.ifCond .eq 37, 3) := by decide +kernel
theorem dX4_wantReferences_11 : decode cX4_wantReferences 11 = .ok (.iconst 0, 1) := by decide +kernel
theorem dX4_wantReferences_12 : decode cX4_wantReferences 12 = .ok (.istore_n 2, 1) := by decide +kernel
theorem dX4_wantReferences_13 : decode cX4_wantReferences 13 = .ok (.iload_n 2, 1) := by decide +kernel
theorem dX4_wantReferences_14 : decode cX4_wantReferences 14 = .ok (.iconst 2, 1) := by decide +kernel
theorem dX4_wantReferences_15 : decode cX4_wantReferences 15 = .ok (.if_icmp .ge 30, 3) := by decide +kernel
theorem dX4_wantReferences_18 : decode cX4_wantReferences 18 = .ok (.aload_n 0, 1) := by decide +kernel
theorem dX4_wantReferences_19 : decode cX4_wantReferences 19 = .ok (.iload_n 1, 1) := by decide +kernel
theorem dX4_wantReferences_20 : decode cX4_wantReferences 20 = .ok (.bipush 16, 2) := by decide +kernel
theorem dX4_wantReferences_22 : decode cX4_wantReferences 22 = .ok (.idiv, 1) := by decide +kernel
theorem dX4_wantReferences_23 : decode cX4_wantReferences 23 = .ok (.aload_n 0, 1) := by decide +kernel
theorem dX4_wantReferences_24 : decode cX4_wantReferences 24 = .ok (.getfield 33, 3) := by decide +kernel
theorem dX4_wantReferences_27 : decode cX4_wantReferences 27 = .ok (.getfield 99, 3) := by decide +kernel
theorem dX4_wantReferences_30 : decode cX4_wantReferences 30 = .ok (.iload_n 1, 1) := by decide +kernel
theorem dX4_wantReferences_31 : decode cX4_wantReferences 31 = .ok (.iaload, 1) := by decide +kernel
theorem dX4_wantReferences_32 : decode cX4_wantReferences 32 = .ok (.iload_n 2, 1) := by decide +kernel
theorem dX4_wantReferences_33 : decode cX4_wantReferences 33 = .ok (.invokestatic 116, 3) := by decide +kernel
theorem dX4_wantReferences_36 : decode cX4_wantReferences 36 = .ok (.invokevirtual 119, 3) := by decide +kernel
theorem dX4_wantReferences_39 : decode cX4_wantReferences 39 = .ok (.iinc 2 1, 3) := by decide +kernel
theorem dX4_wantReferences_42 : decode cX4_wantReferences 42 = .ok (.goto (-29), 3) := by decide +kernel
theorem dX4_wantReferences_45 : decode cX4_wantReferences 45 = .ok (.return_, 1) := by decide +kernel
theorem dX4_want_0 : decode cX4_want 0 = .ok (.iload_n 2, 1) := by decide +kernel
theorem dX4_want_1 : decode cX4_want 1 = .ok (.iconst (-1), 1) := by decide +kernel
theorem dX4_want_2 : decode cX4_want 2 = .ok (.if_icmp .eq 19, 3) := by decide +kernel
theorem dX4_want_5 : decode cX4_want 5 = .ok (.aload_n 0, 1) := by decide +kernel
theorem dX4_want_6 : decode cX4_want 6 = .ok (.getfield 33, 3) := by decide +kernel
theorem dX4_want_9 : decode cX4_want 9 = .ok (.iload_n 1, 1) := by decide +kernel
theorem dX4_want_10 : decode cX4_want 10 = .ok (.bipush 16, 2) := by decide +kernel
theorem dX4_want_12 : decode cX4_want 12 = .ok (.imul, 1) := by decide +kernel
theorem dX4_want_13 : decode cX4_want 13 = .ok (.iload_n 2, 1) := by decide +kernel
theorem dX4_want_14 : decode cX4_want 14 = .ok (.iadd, 1) := by decide +kernel
theorem dX4_want_15 : decode cX4_want 15 = .ok (.invokevirtual 55, 3) := by decide +kernel
theorem dX4_want_18 : decode cX4_want 18 = .ok (.ifCond .eq 4, 3) := by decide +kernel
theorem dX4_want_21 : decode cX4_want 21 = .ok (.return_, 1) := by decide +kernel
theorem dX4_want_22 : decode cX4_want 22 = .ok (.aload_n 0, 1) := by decide +kernel
theorem dX4_want_23 : decode cX4_want 23 = .ok (.getfield 21, 3) := by decide +kernel
theorem dX4_want_26 : decode cX4_want 26 = .ok (.iload_n 1, 1) := by decide +kernel
theorem dX4_want_27 : decode cX4_want 27 = .ok (.bipush 16, 2) := by decide +kernel
theorem dX4_want_29 : decode cX4_want 29 = .ok (.imul, 1) := by decide +kernel
theorem dX4_want_30 : decode cX4_want 30 = .ok (.iload_n 2, 1) := by decide +kernel
theorem dX4_want_31 : decode cX4_want 31 = .ok (.iadd, 1) := by decide +kernel
theorem dX4_want_32 : decode cX4_want 32 = .ok (.iaload, 1) := by decide +kernel
theorem dX4_want_33 : decode cX4_want 33 = .ok (.istore_n 3, 1) := by decide +kernel
theorem dX4_want_34 : decode cX4_want 34 = .ok (.iload_n 3, 1) := by decide +kernel
theorem dX4_want_35 : decode cX4_want 35 = .ok (.iconst (-1), 1) := by decide +kernel
theorem dX4_want_36 : decode cX4_want 36 = .ok (.if_icmp .eq 27, 3) := by decide +kernel
theorem dX4_want_39 : decode cX4_want 39 = .ok (.aload_n 0, 1) := by decide +kernel
theorem dX4_want_40 : decode cX4_want 40 = .ok (.getfield 18, 3) := by decide +kernel
theorem dX4_want_43 : decode cX4_want 43 = .ok (.iload_n 1, 1) := by decide +kernel
theorem dX4_want_44 : decode cX4_want 44 = .ok (.bipush 8, 2) := by decide +kernel
theorem dX4_want_46 : decode cX4_want 46 = .ok (.imul, 1) := by decide +kernel
theorem dX4_want_47 : decode cX4_want 47 = .ok (.iload_n 3, 1) := by decide +kernel
theorem dX4_want_48 : decode cX4_want 48 = .ok (.bipush 16, 2) := by decide +kernel
theorem dX4_want_50 : decode cX4_want 50 = .ok (.idiv, 1) := by decide +kernel
theorem dX4_want_51 : decode cX4_want 51 = .ok (.iadd, 1) := by decide +kernel
theorem dX4_want_52 : decode cX4_want 52 = .ok (.dup2, 1) := by decide +kernel
theorem dX4_want_53 : decode cX4_want 53 = .ok (.iaload, 1) := by decide +kernel
theorem dX4_want_54 : decode cX4_want 54 = .ok (.iconst 1, 1) := by decide +kernel
theorem dX4_want_55 : decode cX4_want 55 = .ok (.iload_n 3, 1) := by decide +kernel
theorem dX4_want_56 : decode cX4_want 56 = .ok (.bipush 16, 2) := by decide +kernel
theorem dX4_want_58 : decode cX4_want 58 = .ok (.irem, 1) := by decide +kernel
theorem dX4_want_59 : decode cX4_want 59 = .ok (.ishl, 1) := by decide +kernel
theorem dX4_want_60 : decode cX4_want 60 = .ok (.ior, 1) := by decide +kernel
theorem dX4_want_61 : decode cX4_want 61 = .ok (.iastore, 1) := by decide +kernel
theorem dX4_want_62 : decode cX4_want 62 = .ok (.return_, 1) := by decide +kernel
theorem dX4_want_63 : decode cX4_want 63 = .ok (.iconst 0, 1) := by decide +kernel
theorem dX4_want_64 : decode cX4_want 64 = .ok (.istore 4, 2) := by decide +kernel
theorem dX4_want_66 : decode cX4_want 66 = .ok (.iload 4, 2) := by decide +kernel
theorem dX4_want_68 : decode cX4_want 68 = .ok (.bipush 8, 2) := by decide +kernel
theorem dX4_want_70 : decode cX4_want 70 = .ok (.if_icmp .ge 41, 3) := by decide +kernel
theorem dX4_want_73 : decode cX4_want 73 = .ok (.aload_n 0, 1) := by decide +kernel
theorem dX4_want_74 : decode cX4_want 74 = .ok (.getfield 27, 3) := by decide +kernel
theorem dX4_want_77 : decode cX4_want 77 = .ok (.iload_n 1, 1) := by decide +kernel
theorem dX4_want_78 : decode cX4_want 78 = .ok (.iaload, 1) := by decide +kernel
theorem dX4_want_79 : decode cX4_want 79 = .ok (.iload 4, 2) := by decide +kernel
theorem dX4_want_81 : decode cX4_want 81 = .ok (.invokestatic 107, 3) := by decide +kernel
theorem dX4_want_84 : decode cX4_want 84 = .ok (.ifCond .eq 21, 3) := by decide +kernel
theorem dX4_want_87 : decode cX4_want 87 = .ok (.aload_n 0, 1) := by decide +kernel
theorem dX4_want_88 : decode cX4_want 88 = .ok (.getfield 18, 3) := by decide +kernel
theorem dX4_want_91 : decode cX4_want 91 = .ok (.iload_n 1, 1) := by decide +kernel
theorem dX4_want_92 : decode cX4_want 92 = .ok (.bipush 8, 2) := by decide +kernel
theorem dX4_want_94 : decode cX4_want 94 = .ok (.imul, 1) := by decide +kernel
theorem dX4_want_95 : decode cX4_want 95 = .ok (.iload 4, 2) := by decide +kernel
theorem dX4_want_97 : decode cX4_want 97 = .ok (.iadd, 1) := by decide +kernel
theorem dX4_want_98 : decode cX4_want 98 = .ok (.dup2, 1) := by decide +kernel
theorem dX4_want_99 : decode cX4_want 99 = .ok (.iaload, 1) := by decide +kernel
theorem dX4_want_100 : decode cX4_want 100 = .ok (.iconst 1, 1) := by decide +kernel
theorem dX4_want_101 : decode cX4_want 101 = .ok (.iload_n 2, 1) := by decide +kernel
theorem dX4_want_102 : decode cX4_want 102 = .ok (.ishl, 1) := by decide +kernel
theorem dX4_want_103 : decode cX4_want 103 = .ok (.ior, 1) := by decide +kernel
theorem dX4_want_104 : decode cX4_want 104 = .ok (.iastore, 1) := by decide +kernel
theorem dX4_want_105 : decode cX4_want 105 = .ok (.iinc 4 1, 3) := by decide +kernel
theorem dX4_want_108 : decode cX4_want 108 = .ok (.goto (-42), 3) := by decide +kernel
theorem dX4_want_111 : decode cX4_want 111 = .ok (.return_, 1) := by decide +kernel
theorem dX4_wantedBy_0 : decode cX4_wantedBy 0 = .ok (.iconst 0, 1) := by decide +kernel
theorem dX4_wantedBy_1 : decode cX4_wantedBy 1 = .ok (.istore_n 2, 1) := by decide +kernel
theorem dX4_wantedBy_2 : decode cX4_wantedBy 2 = .ok (.iconst 0, 1) := by decide +kernel
theorem dX4_wantedBy_3 : decode cX4_wantedBy 3 = .ok (.istore_n 3, 1) := by decide +kernel
theorem dX4_wantedBy_4 : decode cX4_wantedBy 4 = .ok (.iload_n 3, 1) := by decide +kernel
theorem dX4_wantedBy_5 : decode cX4_wantedBy 5 = .ok (.bipush 8, 2) := by decide +kernel
theorem dX4_wantedBy_7 : decode cX4_wantedBy 7 = .ok (.if_icmp .ge 26, 3) := by decide +kernel
theorem dX4_wantedBy_10 : decode cX4_wantedBy 10 = .ok (.iload_n 2, 1) := by decide +kernel
theorem dX4_wantedBy_11 : decode cX4_wantedBy 11 = .ok (.aload_n 0, 1) := by decide +kernel
theorem dX4_wantedBy_12 : decode cX4_wantedBy 12 = .ok (.getfield 18, 3) := by decide +kernel
theorem dX4_wantedBy_15 : decode cX4_wantedBy 15 = .ok (.iload_n 1, 1) := by decide +kernel
theorem dX4_wantedBy_16 : decode cX4_wantedBy 16 = .ok (.bipush 8, 2) := by decide +kernel
theorem dX4_wantedBy_18 : decode cX4_wantedBy 18 = .ok (.imul, 1) := by decide +kernel
theorem dX4_wantedBy_19 : decode cX4_wantedBy 19 = .ok (.iload_n 3, 1) := by decide +kernel
theorem dX4_wantedBy_20 : decode cX4_wantedBy 20 = .ok (.iadd, 1) := by decide +kernel
theorem dX4_wantedBy_21 : decode cX4_wantedBy 21 = .ok (.iaload, 1) := by decide +kernel
theorem dX4_wantedBy_22 : decode cX4_wantedBy 22 = .ok (.invokestatic 122, 3) := by decide +kernel
theorem dX4_wantedBy_25 : decode cX4_wantedBy 25 = .ok (.iadd, 1) := by decide +kernel
theorem dX4_wantedBy_26 : decode cX4_wantedBy 26 = .ok (.istore_n 2, 1) := by decide +kernel
theorem dX4_wantedBy_27 : decode cX4_wantedBy 27 = .ok (.iinc 3 1, 3) := by decide +kernel
theorem dX4_wantedBy_30 : decode cX4_wantedBy 30 = .ok (.goto (-26), 3) := by decide +kernel
theorem dX4_wantedBy_33 : decode cX4_wantedBy 33 = .ok (.iload_n 2, 1) := by decide +kernel
theorem dX4_wantedBy_34 : decode cX4_wantedBy 34 = .ok (.ireturn, 1) := by decide +kernel
theorem dX4_isWanted_0 : decode cX4_isWanted 0 = .ok (.aload_n 0, 1) := by decide +kernel
theorem dX4_isWanted_1 : decode cX4_isWanted 1 = .ok (.getfield 18, 3) := by decide +kernel
theorem dX4_isWanted_4 : decode cX4_isWanted 4 = .ok (.iload_n 1, 1) := by decide +kernel
theorem dX4_isWanted_5 : decode cX4_isWanted 5 = .ok (.bipush 8, 2) := by decide +kernel
theorem dX4_isWanted_7 : decode cX4_isWanted 7 = .ok (.imul, 1) := by decide +kernel
theorem dX4_isWanted_8 : decode cX4_isWanted 8 = .ok (.iload_n 2, 1) := by decide +kernel
theorem dX4_isWanted_9 : decode cX4_isWanted 9 = .ok (.bipush 16, 2) := by decide +kernel
theorem dX4_isWanted_11 : decode cX4_isWanted 11 = .ok (.idiv, 1) := by decide +kernel
theorem dX4_isWanted_12 : decode cX4_isWanted 12 = .ok (.iadd, 1) := by decide +kernel
theorem dX4_isWanted_13 : decode cX4_isWanted 13 = .ok (.iaload, 1) := by decide +kernel
theorem dX4_isWanted_14 : decode cX4_isWanted 14 = .ok (.iload_n 2, 1) := by decide +kernel
theorem dX4_isWanted_15 : decode cX4_isWanted 15 = .ok (.bipush 16, 2) := by decide +kernel
theorem dX4_isWanted_17 : decode cX4_isWanted 17 = .ok (.irem, 1) := by decide +kernel
theorem dX4_isWanted_18 : decode cX4_isWanted 18 = .ok (.ishr, 1) := by decide +kernel
theorem dX4_isWanted_19 : decode cX4_isWanted 19 = .ok (.iconst 1, 1) := by decide +kernel
theorem dX4_isWanted_20 : decode cX4_isWanted 20 = .ok (.iand, 1) := by decide +kernel
theorem dX4_isWanted_21 : decode cX4_isWanted 21 = .ok (.iconst 1, 1) := by decide +kernel
theorem dX4_isWanted_22 : decode cX4_isWanted 22 = .ok (.if_icmp .ne 7, 3) := by decide +kernel
theorem dX4_isWanted_25 : decode cX4_isWanted 25 = .ok (.iconst 1, 1) := by decide +kernel
theorem dX4_isWanted_26 : decode cX4_isWanted 26 = .ok (.goto 4, 3) := by decide +kernel
theorem dX4_isWanted_29 : decode cX4_isWanted 29 = .ok (.iconst 0, 1) := by decide +kernel
theorem dX4_isWanted_30 : decode cX4_isWanted 30 = .ok (.ireturn, 1) := by decide +kernel
theorem dX5_init_0 : decode cX5_init 0 = .ok (.aload_n 0, 1) := by decide +kernel
theorem dX5_init_1 : decode cX5_init 1 = .ok (.invokespecial 3, 3) := by decide +kernel
theorem dX5_init_4 : decode cX5_init 4 = .ok (.aload_n 0, 1) := by decide +kernel
theorem dX5_init_5 : decode cX5_init 5 = .ok (.new 9, 3) := by decide +kernel
theorem dX5_init_8 : decode cX5_init 8 = .ok (.dup, 1) := by decide +kernel
theorem dX5_init_9 : decode cX5_init 9 = .ok (.invokespecial 11, 3) := by decide +kernel
theorem dX5_init_12 : decode cX5_init 12 = .ok (.putfield 12, 3) := by decide +kernel
theorem dX5_init_15 : decode cX5_init 15 = .ok (.aload_n 0, 1) := by decide +kernel
theorem dX5_init_16 : decode cX5_init 16 = .ok (.sipush 128, 3) := by decide +kernel
theorem dX5_init_19 : decode cX5_init 19 = .ok (.newarray .long, 2) := by decide +kernel
theorem dX5_init_21 : decode cX5_init 21 = .ok (.putfield 18, 3) := by decide +kernel
theorem dX5_init_24 : decode cX5_init 24 = .ok (.aload_n 0, 1) := by decide +kernel
theorem dX5_init_25 : decode cX5_init 25 = .ok (.sipush 128, 3) := by decide +kernel
theorem dX5_init_28 : decode cX5_init 28 = .ok (.newarray .long, 2) := by decide +kernel
theorem dX5_init_30 : decode cX5_init 30 = .ok (.putfield 22, 3) := by decide +kernel
theorem dX5_init_33 : decode cX5_init 33 = .ok (.aload_n 0, 1) := by decide +kernel
theorem dX5_init_34 : decode cX5_init 34 = .ok (.sipush 128, 3) := by decide +kernel
theorem dX5_init_37 : decode cX5_init 37 = .ok (.newarray .int, 2) := by decide +kernel
theorem dX5_init_39 : decode cX5_init 39 = .ok (.putfield 25, 3) := by decide +kernel
theorem dX5_init_42 : decode cX5_init 42 = .ok (.aload_n 0, 1) := by decide +kernel
theorem dX5_init_43 : decode cX5_init 43 = .ok (.sipush 128, 3) := by decide +kernel
theorem dX5_init_46 : decode cX5_init 46 = .ok (.newarray .boolean, 2) := by decide +kernel
theorem dX5_init_48 : decode cX5_init 48 = .ok (.putfield 29, 3) := by decide +kernel
theorem dX5_init_51 : decode cX5_init 51 = .ok (.aload_n 0, 1) := by decide +kernel
theorem dX5_init_52 : decode cX5_init 52 = .ok (.sipush 128, 3) := by decide +kernel
theorem dX5_init_55 : decode cX5_init 55 = .ok (.newarray .boolean, 2) := by decide +kernel
theorem dX5_init_57 : decode cX5_init 57 = .ok (.putfield 33, 3) := by decide +kernel
theorem dX5_init_60 : decode cX5_init 60 = .ok (.aload_n 0, 1) := by decide +kernel
theorem dX5_init_61 : decode cX5_init 61 = .ok (.sipush 128, 3) := by decide +kernel
theorem dX5_init_64 : decode cX5_init 64 = .ok (.newarray .int, 2) := by decide +kernel
theorem dX5_init_66 : decode cX5_init 66 = .ok (.putfield 36, 3) := by decide +kernel
theorem dX5_init_69 : decode cX5_init 69 = .ok (.aload_n 0, 1) := by decide +kernel
theorem dX5_init_70 : decode cX5_init 70 = .ok (.sipush 128, 3) := by decide +kernel
theorem dX5_init_73 : decode cX5_init 73 = .ok (.newarray .int, 2) := by decide +kernel
theorem dX5_init_75 : decode cX5_init 75 = .ok (.putfield 39, 3) := by decide +kernel
theorem dX5_init_78 : decode cX5_init 78 = .ok (.aload_n 0, 1) := by decide +kernel
theorem dX5_init_79 : decode cX5_init 79 = .ok (.sipush 128, 3) := by decide +kernel
theorem dX5_init_82 : decode cX5_init 82 = .ok (.newarray .int, 2) := by decide +kernel
theorem dX5_init_84 : decode cX5_init 84 = .ok (.putfield 42, 3) := by decide +kernel
theorem dX5_init_87 : decode cX5_init 87 = .ok (.iconst 0, 1) := by decide +kernel
theorem dX5_init_88 : decode cX5_init 88 = .ok (.istore_n 1, 1) := by decide +kernel
theorem dX5_init_89 : decode cX5_init 89 = .ok (.iload_n 1, 1) := by decide +kernel
theorem dX5_init_90 : decode cX5_init 90 = .ok (.sipush 128, 3) := by decide +kernel
theorem dX5_init_93 : decode cX5_init 93 = .ok (.if_icmp .ge 14, 3) := by decide +kernel
theorem dX5_init_96 : decode cX5_init 96 = .ok (.aload_n 0, 1) := by decide +kernel
theorem dX5_init_97 : decode cX5_init 97 = .ok (.iload_n 1, 1) := by decide +kernel
theorem dX5_init_98 : decode cX5_init 98 = .ok (.invokevirtual 45, 3) := by decide +kernel
theorem dX5_init_101 : decode cX5_init 101 = .ok (.iinc 1 1, 3) := by decide +kernel
theorem dX5_init_104 : decode cX5_init 104 = .ok (.goto (-15), 3) := by decide +kernel
theorem dX5_init_107 : decode cX5_init 107 = .ok (.return_, 1) := by decide +kernel
theorem dX5_begin_0 : decode cX5_begin 0 = .ok (.aload_n 0, 1) := by decide +kernel
theorem dX5_begin_1 : decode cX5_begin 1 = .ok (.iload_n 1, 1) := by decide +kernel
theorem dX5_begin_2 : decode cX5_begin 2 = .ok (.putfield 49, 3) := by decide +kernel
theorem dX5_begin_5 : decode cX5_begin 5 = .ok (.aload_n 0, 1) := by decide +kernel
theorem dX5_begin_6 : decode cX5_begin 6 = .ok (.getfield 12, 3) := by decide +kernel
theorem dX5_begin_9 : decode cX5_begin 9 = .ok (.aload_n 2, 1) := by decide +kernel
theorem dX5_begin_10 : decode cX5_begin 10 = .ok (.invokevirtual 53, 3) := by decide +kernel
theorem dX5_begin_13 : decode cX5_begin 13 = .ok (.aload_n 0, 1) := by decide +kernel
theorem dX5_begin_14 : decode cX5_begin 14 = .ok (.getfield 18, 3) := by decide +kernel
theorem dX5_begin_17 : decode cX5_begin 17 = .ok (.ldc2_w 57, 3) := by decide +kernel
theorem dX5_begin_20 : decode cX5_begin 20 = .ok (.invokestatic 59, 3) := by decide +kernel
theorem dX5_begin_23 : decode cX5_begin 23 = .ok (.iconst 0, 1) := by decide +kernel
theorem dX5_begin_24 : decode cX5_begin 24 = .ok (.istore_n 3, 1) := by decide +kernel
theorem dX5_begin_25 : decode cX5_begin 25 = .ok (.iload_n 3, 1) := by decide +kernel
theorem dX5_begin_26 : decode cX5_begin 26 = .ok (.sipush 128, 3) := by decide +kernel
theorem dX5_begin_29 : decode cX5_begin 29 = .ok (.if_icmp .ge 14, 3) := by decide +kernel
theorem dX5_begin_32 : decode cX5_begin 32 = .ok (.aload_n 0, 1) := by decide +kernel
theorem dX5_begin_33 : decode cX5_begin 33 = .ok (.iload_n 3, 1) := by decide +kernel
theorem dX5_begin_34 : decode cX5_begin 34 = .ok (.invokevirtual 45, 3) := by decide +kernel
theorem dX5_begin_37 : decode cX5_begin 37 = .ok (.iinc 3 1, 3) := by decide +kernel
theorem dX5_begin_40 : decode cX5_begin 40 = .ok (.goto (-15), 3) := by decide +kernel
theorem dX5_begin_43 : decode cX5_begin 43 = .ok (.return_, 1) := by decide +kernel
theorem dX5_setUnbuilt_0 : decode cX5_setUnbuilt 0 = .ok (.aload_n 0, 1) := by decide +kernel
theorem dX5_setUnbuilt_1 : decode cX5_setUnbuilt 1 = .ok (.getfield 22, 3) := by decide +kernel
theorem dX5_setUnbuilt_4 : decode cX5_setUnbuilt 4 = .ok (.iload_n 1, 1) := by decide +kernel
theorem dX5_setUnbuilt_5 : decode cX5_setUnbuilt 5 = .ok (.iload_n 1, 1) := by decide +kernel
theorem dX5_setUnbuilt_6 : decode cX5_setUnbuilt 6 = .ok (.iconst 1, 1) := by decide +kernel
theorem dX5_setUnbuilt_7 : decode cX5_setUnbuilt 7 = .ok (.iconst 1, 1) := by decide +kernel
theorem dX5_setUnbuilt_8 : decode cX5_setUnbuilt 8 = .ok (.iconst 0, 1) := by decide +kernel
theorem dX5_setUnbuilt_9 : decode cX5_setUnbuilt 9 = .ok (.iconst 0, 1) := by decide +kernel
theorem dX5_setUnbuilt_10 : decode cX5_setUnbuilt 10 = .ok (.invokestatic 65, 3) := by decide +kernel
theorem dX5_setUnbuilt_13 : decode cX5_setUnbuilt 13 = .ok (.lastore, 1) := by decide +kernel
theorem dX5_setUnbuilt_14 : decode cX5_setUnbuilt 14 = .ok (.aload_n 0, 1) := by decide +kernel
theorem dX5_setUnbuilt_15 : decode cX5_setUnbuilt 15 = .ok (.getfield 25, 3) := by decide +kernel
theorem dX5_setUnbuilt_18 : decode cX5_setUnbuilt 18 = .ok (.iload_n 1, 1) := by decide +kernel
theorem dX5_setUnbuilt_19 : decode cX5_setUnbuilt 19 = .ok (.iconst 1, 1) := by decide +kernel
theorem dX5_setUnbuilt_20 : decode cX5_setUnbuilt 20 = .ok (.iastore, 1) := by decide +kernel
theorem dX5_setUnbuilt_21 : decode cX5_setUnbuilt 21 = .ok (.aload_n 0, 1) := by decide +kernel
theorem dX5_setUnbuilt_22 : decode cX5_setUnbuilt 22 = .ok (.getfield 29, 3) := by decide +kernel
theorem dX5_setUnbuilt_25 : decode cX5_setUnbuilt 25 = .ok (.iload_n 1, 1) := by decide +kernel
theorem dX5_setUnbuilt_26 : decode cX5_setUnbuilt 26 = .ok (.iconst 0, 1) := by decide +kernel
theorem dX5_setUnbuilt_27 : decode cX5_setUnbuilt 27 = .ok (.bastore, 1) := by decide +kernel
theorem dX5_setUnbuilt_28 : decode cX5_setUnbuilt 28 = .ok (.aload_n 0, 1) := by decide +kernel
theorem dX5_setUnbuilt_29 : decode cX5_setUnbuilt 29 = .ok (.getfield 33, 3) := by decide +kernel
theorem dX5_setUnbuilt_32 : decode cX5_setUnbuilt 32 = .ok (.iload_n 1, 1) := by decide +kernel
theorem dX5_setUnbuilt_33 : decode cX5_setUnbuilt 33 = .ok (.iconst 0, 1) := by decide +kernel
theorem dX5_setUnbuilt_34 : decode cX5_setUnbuilt 34 = .ok (.bastore, 1) := by decide +kernel
theorem dX5_setUnbuilt_35 : decode cX5_setUnbuilt 35 = .ok (.aload_n 0, 1) := by decide +kernel
theorem dX5_setUnbuilt_36 : decode cX5_setUnbuilt 36 = .ok (.getfield 36, 3) := by decide +kernel
theorem dX5_setUnbuilt_39 : decode cX5_setUnbuilt 39 = .ok (.iload_n 1, 1) := by decide +kernel
theorem dX5_setUnbuilt_40 : decode cX5_setUnbuilt 40 = .ok (.iconst 0, 1) := by decide +kernel
theorem dX5_setUnbuilt_41 : decode cX5_setUnbuilt 41 = .ok (.iastore, 1) := by decide +kernel
theorem dX5_setUnbuilt_42 : decode cX5_setUnbuilt 42 = .ok (.aload_n 0, 1) := by decide +kernel
theorem dX5_setUnbuilt_43 : decode cX5_setUnbuilt 43 = .ok (.getfield 39, 3) := by decide +kernel
theorem dX5_setUnbuilt_46 : decode cX5_setUnbuilt 46 = .ok (.iload_n 1, 1) := by decide +kernel
theorem dX5_setUnbuilt_47 : decode cX5_setUnbuilt 47 = .ok (.iconst (-1), 1) := by decide +kernel
theorem dX5_setUnbuilt_48 : decode cX5_setUnbuilt 48 = .ok (.iastore, 1) := by decide +kernel
theorem dX5_setUnbuilt_49 : decode cX5_setUnbuilt 49 = .ok (.aload_n 0, 1) := by decide +kernel
theorem dX5_setUnbuilt_50 : decode cX5_setUnbuilt 50 = .ok (.getfield 42, 3) := by decide +kernel
theorem dX5_setUnbuilt_53 : decode cX5_setUnbuilt 53 = .ok (.iload_n 1, 1) := by decide +kernel
theorem dX5_setUnbuilt_54 : decode cX5_setUnbuilt 54 = .ok (.iconst (-1), 1) := by decide +kernel
theorem dX5_setUnbuilt_55 : decode cX5_setUnbuilt 55 = .ok (.iastore, 1) := by decide +kernel
theorem dX5_setUnbuilt_56 : decode cX5_setUnbuilt 56 = .ok (.return_, 1) := by decide +kernel
theorem dX5_callCount_0 : decode cX5_callCount 0 = .ok (.aload_n 0, 1) := by decide +kernel
theorem dX5_callCount_1 : decode cX5_callCount 1 = .ok (.getfield 39, 3) := by decide +kernel
theorem dX5_callCount_4 : decode cX5_callCount 4 = .ok (.iload_n 1, 1) := by decide +kernel
theorem dX5_callCount_5 : decode cX5_callCount 5 = .ok (.iaload, 1) := by decide +kernel
theorem dX5_callCount_6 : decode cX5_callCount 6 = .ok (.iconst (-1), 1) := by decide +kernel
theorem dX5_callCount_7 : decode cX5_callCount 7 = .ok (.if_icmp .ne 7, 3) := by decide +kernel
theorem dX5_callCount_10 : decode cX5_callCount 10 = .ok (.iconst 0, 1) := by decide +kernel
theorem dX5_callCount_11 : decode cX5_callCount 11 = .ok (.goto 4, 3) := by decide +kernel
theorem dX5_callCount_14 : decode cX5_callCount 14 = .ok (.iconst 1, 1) := by decide +kernel
theorem dX5_callCount_15 : decode cX5_callCount 15 = .ok (.aload_n 0, 1) := by decide +kernel
theorem dX5_callCount_16 : decode cX5_callCount 16 = .ok (.getfield 42, 3) := by decide +kernel
theorem dX5_callCount_19 : decode cX5_callCount 19 = .ok (.iload_n 1, 1) := by decide +kernel
theorem dX5_callCount_20 : decode cX5_callCount 20 = .ok (.iaload, 1) := by decide +kernel
theorem dX5_callCount_21 : decode cX5_callCount 21 = .ok (.iconst (-1), 1) := by decide +kernel
theorem dX5_callCount_22 : decode cX5_callCount 22 = .ok (.if_icmp .ne 7, 3) := by decide +kernel
theorem dX5_callCount_25 : decode cX5_callCount 25 = .ok (.iconst 0, 1) := by decide +kernel
theorem dX5_callCount_26 : decode cX5_callCount 26 = .ok (.goto 4, 3) := by decide +kernel
theorem dX5_callCount_29 : decode cX5_callCount 29 = .ok (.iconst 1, 1) := by decide +kernel
theorem dX5_callCount_30 : decode cX5_callCount 30 = .ok (.iadd, 1) := by decide +kernel
theorem dX5_callCount_31 : decode cX5_callCount 31 = .ok (.ireturn, 1) := by decide +kernel
theorem dX6_init_0 : decode cX6_init 0 = .ok (.aload_n 0, 1) := by decide +kernel
theorem dX6_init_1 : decode cX6_init 1 = .ok (.invokespecial 3, 3) := by decide +kernel
theorem dX6_init_4 : decode cX6_init 4 = .ok (.aload_n 0, 1) := by decide +kernel
theorem dX6_init_5 : decode cX6_init 5 = .ok (.bipush 8, 2) := by decide +kernel
theorem dX6_init_7 : decode cX6_init 7 = .ok (.newarray .int, 2) := by decide +kernel
theorem dX6_init_9 : decode cX6_init 9 = .ok (.putfield 9, 3) := by decide +kernel
theorem dX6_init_12 : decode cX6_init 12 = .ok (.aload_n 0, 1) := by decide +kernel
theorem dX6_init_13 : decode cX6_init 13 = .ok (.bipush 8, 2) := by decide +kernel
theorem dX6_init_15 : decode cX6_init 15 = .ok (.newarray .int, 2) := by decide +kernel
theorem dX6_init_17 : decode cX6_init 17 = .ok (.putfield 15, 3) := by decide +kernel
theorem dX6_init_20 : decode cX6_init 20 = .ok (.aload_n 0, 1) := by decide +kernel
theorem dX6_init_21 : decode cX6_init 21 = .ok (.bipush 8, 2) := by decide +kernel
theorem dX6_init_23 : decode cX6_init 23 = .ok (.newarray .int, 2) := by decide +kernel
theorem dX6_init_25 : decode cX6_init 25 = .ok (.putfield 18, 3) := by decide +kernel
theorem dX6_init_28 : decode cX6_init 28 = .ok (.aload_n 0, 1) := by decide +kernel
theorem dX6_init_29 : decode cX6_init 29 = .ok (.bipush 8, 2) := by decide +kernel
theorem dX6_init_31 : decode cX6_init 31 = .ok (.newarray .int, 2) := by decide +kernel
theorem dX6_init_33 : decode cX6_init 33 = .ok (.putfield 21, 3) := by decide +kernel
theorem dX6_init_36 : decode cX6_init 36 = .ok (.aload_n 0, 1) := by decide +kernel
theorem dX6_init_37 : decode cX6_init 37 = .ok (.bipush 8, 2) := by decide +kernel
theorem dX6_init_39 : decode cX6_init 39 = .ok (.newarray .int, 2) := by decide +kernel
theorem dX6_init_41 : decode cX6_init 41 = .ok (.putfield 24, 3) := by decide +kernel
theorem dX6_init_44 : decode cX6_init 44 = .ok (.aload_n 0, 1) := by decide +kernel
theorem dX6_init_45 : decode cX6_init 45 = .ok (.aload_n 1, 1) := by decide +kernel
theorem dX6_init_46 : decode cX6_init 46 = .ok (.putfield 27, 3) := by decide +kernel
theorem dX6_init_49 : decode cX6_init 49 = .ok (.return_, 1) := by decide +kernel
theorem dX6_has_0 : decode cX6_has 0 = .ok (.iload_n 0, 1) := by decide +kernel
theorem dX6_has_1 : decode cX6_has 1 = .ok (.iload_n 1, 1) := by decide +kernel
theorem dX6_has_2 : decode cX6_has 2 = .ok (.ishr, 1) := by decide +kernel
theorem dX6_has_3 : decode cX6_has 3 = .ok (.iconst 1, 1) := by decide +kernel
theorem dX6_has_4 : decode cX6_has 4 = .ok (.iand, 1) := by decide +kernel
theorem dX6_has_5 : decode cX6_has 5 = .ok (.iconst 1, 1) := by decide +kernel
theorem dX6_has_6 : decode cX6_has 6 = .ok (.if_icmp .ne 7, 3) := by decide +kernel
theorem dX6_has_9 : decode cX6_has 9 = .ok (.iconst 1, 1) := by decide +kernel
theorem dX6_has_10 : decode cX6_has 10 = .ok (.goto 4, 3) := by decide +kernel
theorem dX6_has_13 : decode cX6_has 13 = .ok (.iconst 0, 1) := by decide +kernel
theorem dX6_has_14 : decode cX6_has 14 = .ok (.ireturn, 1) := by decide +kernel
theorem dX6_smallestOf_0 : decode cX6_smallestOf 0 = .ok (.iconst 0, 1) := by decide +kernel
theorem dX6_smallestOf_1 : decode cX6_smallestOf 1 = .ok (.istore_n 1, 1) := by decide +kernel
theorem dX6_smallestOf_2 : decode cX6_smallestOf 2 = .ok (.iload_n 1, 1) := by decide +kernel
theorem dX6_smallestOf_3 : decode cX6_smallestOf 3 = .ok (.bipush 8, 2) := by decide +kernel
theorem dX6_smallestOf_5 : decode cX6_smallestOf 5 = .ok (.if_icmp .ge 19, 3) := by decide +kernel
theorem dX6_smallestOf_8 : decode cX6_smallestOf 8 = .ok (.iload_n 0, 1) := by decide +kernel
theorem dX6_smallestOf_9 : decode cX6_smallestOf 9 = .ok (.iload_n 1, 1) := by decide +kernel
theorem dX6_smallestOf_10 : decode cX6_smallestOf 10 = .ok (.invokestatic 31, 3) := by decide +kernel
theorem dX6_smallestOf_13 : decode cX6_smallestOf 13 = .ok (.ifCond .eq 5, 3) := by decide +kernel
theorem dX6_smallestOf_16 : decode cX6_smallestOf 16 = .ok (.iload_n 1, 1) := by decide +kernel
theorem dX6_smallestOf_17 : decode cX6_smallestOf 17 = .ok (.ireturn, 1) := by decide +kernel
theorem dX6_smallestOf_18 : decode cX6_smallestOf 18 = .ok (.iinc 1 1, 3) := by decide +kernel
theorem dX6_smallestOf_21 : decode cX6_smallestOf 21 = .ok (.goto (-19), 3) := by decide +kernel
theorem dX6_smallestOf_24 : decode cX6_smallestOf 24 = .ok (.iconst (-1), 1) := by decide +kernel
theorem dX6_smallestOf_25 : decode cX6_smallestOf 25 = .ok (.ireturn, 1) := by decide +kernel
theorem dX6_settle_0 : decode cX6_settle 0 = .ok (.aload_n 0, 1) := by decide +kernel
theorem dX6_settle_1 : decode cX6_settle 1 = .ok (.invokevirtual 35, 3) := by decide +kernel
theorem dX6_settle_4 : decode cX6_settle 4 = .ok (.iconst 0, 1) := by decide +kernel
theorem dX6_settle_5 : decode cX6_settle 5 = .ok (.istore_n 1, 1) := by decide +kernel
theorem dX6_settle_6 : decode cX6_settle 6 = .ok (.iload_n 1, 1) := by decide +kernel
theorem dX6_settle_7 : decode cX6_settle 7 = .ok (.aload_n 0, 1) := by decide +kernel
theorem dX6_settle_8 : decode cX6_settle 8 = .ok (.getfield 27, 3) := by decide +kernel
theorem dX6_settle_11 : decode cX6_settle 11 = .ok (.getfield 38, 3) := by decide +kernel
theorem dX6_settle_14 : decode cX6_settle 14 = .ok (.if_icmp .ge 20, 3) := by decide +kernel
theorem dX6_settle_17 : decode cX6_settle 17 = .ok (.aload_n 0, 1) := by decide +kernel
theorem dX6_settle_18 : decode cX6_settle 18 = .ok (.getfield 18, 3) := by decide +kernel
theorem dX6_settle_21 : decode cX6_settle 21 = .ok (.iload_n 1, 1) := by decide +kernel
theorem dX6_settle_22 : decode cX6_settle 22 = .ok (.aload_n 0, 1) := by decide +kernel
theorem dX6_settle_23 : decode cX6_settle 23 = .ok (.iload_n 1, 1) := by decide +kernel
theorem dX6_settle_24 : decode cX6_settle 24 = .ok (.invokevirtual 44, 3) := by decide +kernel
theorem dX6_settle_27 : decode cX6_settle 27 = .ok (.iastore, 1) := by decide +kernel
theorem dX6_settle_28 : decode cX6_settle 28 = .ok (.iinc 1 1, 3) := by decide +kernel
theorem dX6_settle_31 : decode cX6_settle 31 = .ok (.goto (-25), 3) := by decide +kernel
theorem dX6_settle_34 : decode cX6_settle 34 = .ok (.aload_n 0, 1) := by decide +kernel
theorem dX6_settle_35 : decode cX6_settle 35 = .ok (.invokevirtual 48, 3) := by decide +kernel
theorem dX6_settle_38 : decode cX6_settle 38 = .ok (.return_, 1) := by decide +kernel
theorem dX6_settleLeaning_0 : decode cX6_settleLeaning 0 = .ok (.iconst 0, 1) := by decide +kernel
theorem dX6_settleLeaning_1 : decode cX6_settleLeaning 1 = .ok (.istore_n 1, 1) := by decide +kernel
theorem dX6_settleLeaning_2 : decode cX6_settleLeaning 2 = .ok (.iload_n 1, 1) := by decide +kernel
theorem dX6_settleLeaning_3 : decode cX6_settleLeaning 3 = .ok (.aload_n 0, 1) := by decide +kernel
theorem dX6_settleLeaning_4 : decode cX6_settleLeaning 4 = .ok (.getfield 27, 3) := by decide +kernel
theorem dX6_settleLeaning_7 : decode cX6_settleLeaning 7 = .ok (.getfield 38, 3) := by decide +kernel
theorem dX6_settleLeaning_10 : decode cX6_settleLeaning 10 = .ok (.if_icmp .ge 85, 3) := by decide +kernel
theorem dX6_settleLeaning_13 : decode cX6_settleLeaning 13 = .ok (.aload_n 0, 1) := by decide +kernel
theorem dX6_settleLeaning_14 : decode cX6_settleLeaning 14 = .ok (.getfield 9, 3) := by decide +kernel
theorem dX6_settleLeaning_17 : decode cX6_settleLeaning 17 = .ok (.iload_n 1, 1) := by decide +kernel
theorem dX6_settleLeaning_18 : decode cX6_settleLeaning 18 = .ok (.iconst 0, 1) := by decide +kernel
theorem dX6_settleLeaning_19 : decode cX6_settleLeaning 19 = .ok (.iastore, 1) := by decide +kernel
theorem dX6_settleLeaning_20 : decode cX6_settleLeaning 20 = .ok (.iconst 0, 1) := by decide +kernel
theorem dX6_settleLeaning_21 : decode cX6_settleLeaning 21 = .ok (.istore_n 2, 1) := by decide +kernel
theorem dX6_settleLeaning_22 : decode cX6_settleLeaning 22 = .ok (.iload_n 2, 1) := by decide +kernel
theorem dX6_settleLeaning_23 : decode cX6_settleLeaning 23 = .ok (.aload_n 0, 1) := by decide +kernel
theorem dX6_settleLeaning_24 : decode cX6_settleLeaning 24 = .ok (.getfield 27, 3) := by decide +kernel
theorem dX6_settleLeaning_27 : decode cX6_settleLeaning 27 = .ok (.getfield 51, 3) := by decide +kernel
theorem dX6_settleLeaning_30 : decode cX6_settleLeaning 30 = .ok (.iload_n 1, 1) := by decide +kernel
theorem dX6_settleLeaning_31 : decode cX6_settleLeaning 31 = .ok (.iaload, 1) := by decide +kernel
theorem dX6_settleLeaning_32 : decode cX6_settleLeaning 32 = .ok (.if_icmp .ge 45, 3) := by decide +kernel
theorem dX6_settleLeaning_35 : decode cX6_settleLeaning 35 = .ok (.aload_n 0, 1) := by decide +kernel
theorem dX6_settleLeaning_36 : decode cX6_settleLeaning 36 = .ok (.getfield 27, 3) := by decide +kernel
theorem dX6_settleLeaning_39 : decode cX6_settleLeaning 39 = .ok (.iload_n 1, 1) := by decide +kernel
theorem dX6_settleLeaning_40 : decode cX6_settleLeaning 40 = .ok (.iload_n 2, 1) := by decide +kernel
theorem dX6_settleLeaning_41 : decode cX6_settleLeaning 41 = .ok (.invokevirtual 54, 3) := by decide +kernel
theorem dX6_settleLeaning_44 : decode cX6_settleLeaning 44 = .ok (.invokestatic 58, 3) := by decide +kernel
theorem dX6_settleLeaning_47 : decode cX6_settleLeaning 47 = .ok (.istore_n 3, 1) := by decide +kernel
theorem dX6_settleLeaning_48 : decode cX6_settleLeaning 48 = .ok (.iload_n 3, 1) := by decide +kernel
theorem dX6_settleLeaning_49 : decode cX6_settleLeaning 49 = .ok (.aload_n 0, 1) := by decide +kernel
theorem dX6_settleLeaning_50 : decode cX6_settleLeaning 50 = .ok (.getfield 27, 3) := by decide +kernel
theorem dX6_settleLeaning_53 : decode cX6_settleLeaning 53 = .ok (.getfield 38, 3) := by decide +kernel
theorem dX6_settleLeaning_56 : decode cX6_settleLeaning 56 = .ok (.if_icmp .ge 15, 3) := by decide +kernel
theorem dX6_settleLeaning_59 : decode cX6_settleLeaning 59 = .ok (.aload_n 0, 1) := by decide +kernel
theorem dX6_settleLeaning_60 : decode cX6_settleLeaning 60 = .ok (.getfield 9, 3) := by decide +kernel
theorem dX6_settleLeaning_63 : decode cX6_settleLeaning 63 = .ok (.iload_n 1, 1) := by decide +kernel
theorem dX6_settleLeaning_64 : decode cX6_settleLeaning 64 = .ok (.dup2, 1) := by decide +kernel
theorem dX6_settleLeaning_65 : decode cX6_settleLeaning 65 = .ok (.iaload, 1) := by decide +kernel
theorem dX6_settleLeaning_66 : decode cX6_settleLeaning 66 = .ok (.iconst 1, 1) := by decide +kernel
theorem dX6_settleLeaning_67 : decode cX6_settleLeaning 67 = .ok (.iload_n 3, 1) := by decide +kernel
theorem dX6_settleLeaning_68 : decode cX6_settleLeaning 68 = .ok (.ishl, 1) := by decide +kernel
theorem dX6_settleLeaning_69 : decode cX6_settleLeaning 69 = .ok (.ior, 1) := by decide +kernel
theorem dX6_settleLeaning_70 : decode cX6_settleLeaning 70 = .ok (.iastore, 1) := by decide +kernel
theorem dX6_settleLeaning_71 : decode cX6_settleLeaning 71 = .ok (.iinc 2 1, 3) := by decide +kernel
theorem dX6_settleLeaning_74 : decode cX6_settleLeaning 74 = .ok (.goto (-52), 3) := by decide +kernel
theorem dX6_settleLeaning_77 : decode cX6_settleLeaning 77 = .ok (.aload_n 0, 1) := by decide +kernel
theorem dX6_settleLeaning_78 : decode cX6_settleLeaning 78 = .ok (.getfield 15, 3) := by decide +kernel
theorem dX6_settleLeaning_81 : decode cX6_settleLeaning 81 = .ok (.iload_n 1, 1) := by decide +kernel
theorem dX6_settleLeaning_82 : decode cX6_settleLeaning 82 = .ok (.aload_n 0, 1) := by decide +kernel
theorem dX6_settleLeaning_83 : decode cX6_settleLeaning 83 = .ok (.getfield 9, 3) := by decide +kernel
theorem dX6_settleLeaning_86 : decode cX6_settleLeaning 86 = .ok (.iload_n 1, 1) := by decide +kernel
theorem dX6_settleLeaning_87 : decode cX6_settleLeaning 87 = .ok (.iaload, 1) := by decide +kernel
theorem dX6_settleLeaning_88 : decode cX6_settleLeaning 88 = .ok (.iastore, 1) := by decide +kernel
theorem dX6_settleLeaning_89 : decode cX6_settleLeaning 89 = .ok (.iinc 1 1, 3) := by decide +kernel
theorem dX6_settleLeaning_92 : decode cX6_settleLeaning 92 = .ok (.goto (-90), 3) := by decide +kernel
theorem dX6_settleLeaning_95 : decode cX6_settleLeaning 95 = .ok (.iconst 0, 1) := by decide +kernel
theorem dX6_settleLeaning_96 : decode cX6_settleLeaning 96 = .ok (.istore_n 1, 1) := by decide +kernel
theorem dX6_settleLeaning_97 : decode cX6_settleLeaning 97 = .ok (.iload_n 1, 1) := by decide +kernel
theorem dX6_settleLeaning_98 : decode cX6_settleLeaning 98 = .ok (.aload_n 0, 1) := by decide +kernel
theorem dX6_settleLeaning_99 : decode cX6_settleLeaning 99 = .ok (.getfield 27, 3) := by decide +kernel
theorem dX6_settleLeaning_102 : decode cX6_settleLeaning 102 = .ok (.getfield 38, 3) := by decide +kernel
theorem dX6_settleLeaning_105 : decode cX6_settleLeaning 105 = .ok (.if_icmp .ge 56, 3) := by decide +kernel
theorem dX6_settleLeaning_108 : decode cX6_settleLeaning 108 = .ok (.iconst 0, 1) := by decide +kernel
theorem dX6_settleLeaning_109 : decode cX6_settleLeaning 109 = .ok (.istore_n 2, 1) := by decide +kernel
theorem dX6_settleLeaning_110 : decode cX6_settleLeaning 110 = .ok (.iload_n 2, 1) := by decide +kernel
theorem dX6_settleLeaning_111 : decode cX6_settleLeaning 111 = .ok (.aload_n 0, 1) := by decide +kernel
theorem dX6_settleLeaning_112 : decode cX6_settleLeaning 112 = .ok (.getfield 27, 3) := by decide +kernel
theorem dX6_settleLeaning_115 : decode cX6_settleLeaning 115 = .ok (.getfield 38, 3) := by decide +kernel
theorem dX6_settleLeaning_118 : decode cX6_settleLeaning 118 = .ok (.if_icmp .ge 37, 3) := by decide +kernel
theorem dX6_settleLeaning_121 : decode cX6_settleLeaning 121 = .ok (.aload_n 0, 1) := by decide +kernel
theorem dX6_settleLeaning_122 : decode cX6_settleLeaning 122 = .ok (.getfield 15, 3) := by decide +kernel
theorem dX6_settleLeaning_125 : decode cX6_settleLeaning 125 = .ok (.iload_n 2, 1) := by decide +kernel
theorem dX6_settleLeaning_126 : decode cX6_settleLeaning 126 = .ok (.iaload, 1) := by decide +kernel
theorem dX6_settleLeaning_127 : decode cX6_settleLeaning 127 = .ok (.iload_n 1, 1) := by decide +kernel
theorem dX6_settleLeaning_128 : decode cX6_settleLeaning 128 = .ok (.invokestatic 31, 3) := by decide +kernel
theorem dX6_settleLeaning_131 : decode cX6_settleLeaning 131 = .ok (.ifCond .eq 18, 3) := by decide +kernel
theorem dX6_settleLeaning_134 : decode cX6_settleLeaning 134 = .ok (.aload_n 0, 1) := by decide +kernel
theorem dX6_settleLeaning_135 : decode cX6_settleLeaning 135 = .ok (.getfield 15, 3) := by decide +kernel
theorem dX6_settleLeaning_138 : decode cX6_settleLeaning 138 = .ok (.iload_n 2, 1) := by decide +kernel
theorem dX6_settleLeaning_139 : decode cX6_settleLeaning 139 = .ok (.dup2, 1) := by decide +kernel
theorem dX6_settleLeaning_140 : decode cX6_settleLeaning 140 = .ok (.iaload, 1) := by decide +kernel
theorem dX6_settleLeaning_141 : decode cX6_settleLeaning 141 = .ok (.aload_n 0, 1) := by decide +kernel
theorem dX6_settleLeaning_142 : decode cX6_settleLeaning 142 = .ok (.getfield 15, 3) := by decide +kernel
theorem dX6_settleLeaning_145 : decode cX6_settleLeaning 145 = .ok (.iload_n 1, 1) := by decide +kernel
theorem dX6_settleLeaning_146 : decode cX6_settleLeaning 146 = .ok (.iaload, 1) := by decide +kernel
theorem dX6_settleLeaning_147 : decode cX6_settleLeaning 147 = .ok (.ior, 1) := by decide +kernel
theorem dX6_settleLeaning_148 : decode cX6_settleLeaning 148 = .ok (.iastore, 1) := by decide +kernel
theorem dX6_settleLeaning_149 : decode cX6_settleLeaning 149 = .ok (.iinc 2 1, 3) := by decide +kernel
theorem dX6_settleLeaning_152 : decode cX6_settleLeaning 152 = .ok (.goto (-42), 3) := by decide +kernel
theorem dX6_settleLeaning_155 : decode cX6_settleLeaning 155 = .ok (.iinc 1 1, 3) := by decide +kernel
theorem dX6_settleLeaning_158 : decode cX6_settleLeaning 158 = .ok (.goto (-61), 3) := by decide +kernel
theorem dX6_settleLeaning_161 : decode cX6_settleLeaning 161 = .ok (.return_, 1) := by decide +kernel
theorem dX6_ringAround_0 : decode cX6_ringAround 0 = .ok (.iconst 1, 1) := by decide +kernel
theorem dX6_ringAround_1 : decode cX6_ringAround 1 = .ok (.iload_n 1, 1) := by decide +kernel
theorem dX6_ringAround_2 : decode cX6_ringAround 2 = .ok (.ishl, 1) := by decide +kernel
theorem dX6_ringAround_3 : decode cX6_ringAround 3 = .ok (.istore_n 2, 1) := by decide +kernel
theorem dX6_ringAround_4 : decode cX6_ringAround 4 = .ok (.iconst 0, 1) := by decide +kernel
theorem dX6_ringAround_5 : decode cX6_ringAround 5 = .ok (.istore_n 3, 1) := by decide +kernel
theorem dX6_ringAround_6 : decode cX6_ringAround 6 = .ok (.iload_n 3, 1) := by decide +kernel
theorem dX6_ringAround_7 : decode cX6_ringAround 7 = .ok (.aload_n 0, 1) := by decide +kernel
theorem dX6_ringAround_8 : decode cX6_ringAround 8 = .ok (.getfield 27, 3) := by decide +kernel
theorem dX6_ringAround_11 : decode cX6_ringAround 11 = .ok (.getfield 38, 3) := by decide +kernel
theorem dX6_ringAround_14 : decode cX6_ringAround 14 = .ok (.if_icmp .ge 41, 3) := by decide +kernel
theorem dX6_ringAround_17 : decode cX6_ringAround 17 = .ok (.aload_n 0, 1) := by decide +kernel
theorem dX6_ringAround_18 : decode cX6_ringAround 18 = .ok (.getfield 15, 3) := by decide +kernel
theorem dX6_ringAround_21 : decode cX6_ringAround 21 = .ok (.iload_n 1, 1) := by decide +kernel
theorem dX6_ringAround_22 : decode cX6_ringAround 22 = .ok (.iaload, 1) := by decide +kernel
theorem dX6_ringAround_23 : decode cX6_ringAround 23 = .ok (.iload_n 3, 1) := by decide +kernel
theorem dX6_ringAround_24 : decode cX6_ringAround 24 = .ok (.invokestatic 31, 3) := by decide +kernel
theorem dX6_ringAround_27 : decode cX6_ringAround 27 = .ok (.ifCond .eq 22, 3) := by decide +kernel
theorem dX6_ringAround_30 : decode cX6_ringAround 30 = .ok (.aload_n 0, 1) := by decide +kernel
theorem dX6_ringAround_31 : decode cX6_ringAround 31 = .ok (.getfield 15, 3) := by decide +kernel
theorem dX6_ringAround_34 : decode cX6_ringAround 34 = .ok (.iload_n 3, 1) := by decide +kernel
theorem dX6_ringAround_35 : decode cX6_ringAround 35 = .ok (.iaload, 1) := by decide +kernel
theorem dX6_ringAround_36 : decode cX6_ringAround 36 = .ok (.iload_n 1, 1) := by decide +kernel
theorem dX6_ringAround_37 : decode cX6_ringAround 37 = .ok (.invokestatic 31, 3) := by decide +kernel
theorem dX6_ringAround_40 : decode cX6_ringAround 40 = .ok (.ifCond .eq 9, 3) := by decide +kernel
theorem dX6_ringAround_43 : decode cX6_ringAround 43 = .ok (.iload_n 2, 1) := by decide +kernel
theorem dX6_ringAround_44 : decode cX6_ringAround 44 = .ok (.iconst 1, 1) := by decide +kernel
theorem dX6_ringAround_45 : decode cX6_ringAround 45 = .ok (.iload_n 3, 1) := by decide +kernel
theorem dX6_ringAround_46 : decode cX6_ringAround 46 = .ok (.ishl, 1) := by decide +kernel
theorem dX6_ringAround_47 : decode cX6_ringAround 47 = .ok (.ior, 1) := by decide +kernel
theorem dX6_ringAround_48 : decode cX6_ringAround 48 = .ok (.istore_n 2, 1) := by decide +kernel
theorem dX6_ringAround_49 : decode cX6_ringAround 49 = .ok (.iinc 3 1, 3) := by decide +kernel
theorem dX6_ringAround_52 : decode cX6_ringAround 52 = .ok (.goto (-46), 3) := by decide +kernel
theorem dX6_ringAround_55 : decode cX6_ringAround 55 = .ok (.iload_n 2, 1) := by decide +kernel
theorem dX6_ringAround_56 : decode cX6_ringAround 56 = .ok (.ireturn, 1) := by decide +kernel
theorem dX6_settleOrder_0 : decode cX6_settleOrder 0 = .ok (.aload_n 0, 1) := by decide +kernel
theorem dX6_settleOrder_1 : decode cX6_settleOrder 1 = .ok (.iconst 0, 1) := by decide +kernel
theorem dX6_settleOrder_2 : decode cX6_settleOrder 2 = .ok (.putfield 63, 3) := by decide +kernel
theorem dX6_settleOrder_5 : decode cX6_settleOrder 5 = .ok (.iconst 0, 1) := by decide +kernel
theorem dX6_settleOrder_6 : decode cX6_settleOrder 6 = .ok (.istore_n 1, 1) := by decide +kernel
theorem dX6_settleOrder_7 : decode cX6_settleOrder 7 = .ok (.iconst 0, 1) := by decide +kernel
theorem dX6_settleOrder_8 : decode cX6_settleOrder 8 = .ok (.istore_n 2, 1) := by decide +kernel
theorem dX6_settleOrder_9 : decode cX6_settleOrder 9 = .ok (.iload_n 2, 1) := by decide +kernel
theorem dX6_settleOrder_10 : decode cX6_settleOrder 10 = .ok (.aload_n 0, 1) := by decide +kernel
theorem dX6_settleOrder_11 : decode cX6_settleOrder 11 = .ok (.getfield 27, 3) := by decide +kernel
theorem dX6_settleOrder_14 : decode cX6_settleOrder 14 = .ok (.getfield 38, 3) := by decide +kernel
theorem dX6_settleOrder_17 : decode cX6_settleOrder 17 = .ok (.if_icmp .ge 68, 3) := by decide +kernel
theorem dX6_settleOrder_20 : decode cX6_settleOrder 20 = .ok (.aload_n 0, 1) := by decide +kernel
theorem dX6_settleOrder_21 : decode cX6_settleOrder 21 = .ok (.iload_n 1, 1) := by decide +kernel
theorem dX6_settleOrder_22 : decode cX6_settleOrder 22 = .ok (.invokevirtual 66, 3) := by decide +kernel
theorem dX6_settleOrder_25 : decode cX6_settleOrder 25 = .ok (.istore_n 3, 1) := by decide +kernel
theorem dX6_settleOrder_26 : decode cX6_settleOrder 26 = .ok (.iload_n 3, 1) := by decide +kernel
theorem dX6_settleOrder_27 : decode cX6_settleOrder 27 = .ok (.iconst (-1), 1) := by decide +kernel
theorem dX6_settleOrder_28 : decode cX6_settleOrder 28 = .ok (.if_icmp .eq 51, 3) := by decide +kernel
theorem dX6_settleOrder_31 : decode cX6_settleOrder 31 = .ok (.aload_n 0, 1) := by decide +kernel
theorem dX6_settleOrder_32 : decode cX6_settleOrder 32 = .ok (.getfield 24, 3) := by decide +kernel
theorem dX6_settleOrder_35 : decode cX6_settleOrder 35 = .ok (.aload_n 0, 1) := by decide +kernel
theorem dX6_settleOrder_36 : decode cX6_settleOrder 36 = .ok (.getfield 63, 3) := by decide +kernel
theorem dX6_settleOrder_39 : decode cX6_settleOrder 39 = .ok (.aload_n 0, 1) := by decide +kernel
theorem dX6_settleOrder_40 : decode cX6_settleOrder 40 = .ok (.getfield 18, 3) := by decide +kernel
theorem dX6_settleOrder_43 : decode cX6_settleOrder 43 = .ok (.iload_n 3, 1) := by decide +kernel
theorem dX6_settleOrder_44 : decode cX6_settleOrder 44 = .ok (.iaload, 1) := by decide +kernel
theorem dX6_settleOrder_45 : decode cX6_settleOrder 45 = .ok (.iastore, 1) := by decide +kernel
theorem dX6_settleOrder_46 : decode cX6_settleOrder 46 = .ok (.aload_n 0, 1) := by decide +kernel
theorem dX6_settleOrder_47 : decode cX6_settleOrder 47 = .ok (.aload_n 0, 1) := by decide +kernel
theorem dX6_settleOrder_48 : decode cX6_settleOrder 48 = .ok (.getfield 18, 3) := by decide +kernel
theorem dX6_settleOrder_51 : decode cX6_settleOrder 51 = .ok (.iload_n 3, 1) := by decide +kernel
theorem dX6_settleOrder_52 : decode cX6_settleOrder 52 = .ok (.iaload, 1) := by decide +kernel
theorem dX6_settleOrder_53 : decode cX6_settleOrder 53 = .ok (.aload_n 0, 1) := by decide +kernel
theorem dX6_settleOrder_54 : decode cX6_settleOrder 54 = .ok (.getfield 63, 3) := by decide +kernel
theorem dX6_settleOrder_57 : decode cX6_settleOrder 57 = .ok (.invokevirtual 69, 3) := by decide +kernel
theorem dX6_settleOrder_60 : decode cX6_settleOrder 60 = .ok (.iload_n 1, 1) := by decide +kernel
theorem dX6_settleOrder_61 : decode cX6_settleOrder 61 = .ok (.aload_n 0, 1) := by decide +kernel
theorem dX6_settleOrder_62 : decode cX6_settleOrder 62 = .ok (.getfield 18, 3) := by decide +kernel
theorem dX6_settleOrder_65 : decode cX6_settleOrder 65 = .ok (.iload_n 3, 1) := by decide +kernel
theorem dX6_settleOrder_66 : decode cX6_settleOrder 66 = .ok (.iaload, 1) := by decide +kernel
theorem dX6_settleOrder_67 : decode cX6_settleOrder 67 = .ok (.ior, 1) := by decide +kernel
theorem dX6_settleOrder_68 : decode cX6_settleOrder 68 = .ok (.istore_n 1, 1) := by decide +kernel
theorem dX6_settleOrder_69 : decode cX6_settleOrder 69 = .ok (.aload_n 0, 1) := by decide +kernel
theorem dX6_settleOrder_70 : decode cX6_settleOrder 70 = .ok (.dup, 1) := by decide +kernel
theorem dX6_settleOrder_71 : decode cX6_settleOrder 71 = .ok (.getfield 63, 3) := by decide +kernel
theorem dX6_settleOrder_74 : decode cX6_settleOrder 74 = .ok (.iconst 1, 1) := by decide +kernel
theorem dX6_settleOrder_75 : decode cX6_settleOrder 75 = .ok (.iadd, 1) := by decide +kernel
theorem dX6_settleOrder_76 : decode cX6_settleOrder 76 = .ok (.putfield 63, 3) := by decide +kernel
theorem dX6_settleOrder_79 : decode cX6_settleOrder 79 = .ok (.iinc 2 1, 3) := by decide +kernel
theorem dX6_settleOrder_82 : decode cX6_settleOrder 82 = .ok (.goto (-73), 3) := by decide +kernel
theorem dX6_settleOrder_85 : decode cX6_settleOrder 85 = .ok (.return_, 1) := by decide +kernel
theorem dX6_nextBehind_0 : decode cX6_nextBehind 0 = .ok (.iconst 0, 1) := by decide +kernel
theorem dX6_nextBehind_1 : decode cX6_nextBehind 1 = .ok (.istore_n 2, 1) := by decide +kernel
theorem dX6_nextBehind_2 : decode cX6_nextBehind 2 = .ok (.iload_n 2, 1) := by decide +kernel
theorem dX6_nextBehind_3 : decode cX6_nextBehind 3 = .ok (.aload_n 0, 1) := by decide +kernel
theorem dX6_nextBehind_4 : decode cX6_nextBehind 4 = .ok (.getfield 27, 3) := by decide +kernel
theorem dX6_nextBehind_7 : decode cX6_nextBehind 7 = .ok (.getfield 38, 3) := by decide +kernel
theorem dX6_nextBehind_10 : decode cX6_nextBehind 10 = .ok (.if_icmp .ge 43, 3) := by decide +kernel
theorem dX6_nextBehind_13 : decode cX6_nextBehind 13 = .ok (.aload_n 0, 1) := by decide +kernel
theorem dX6_nextBehind_14 : decode cX6_nextBehind 14 = .ok (.getfield 18, 3) := by decide +kernel
theorem dX6_nextBehind_17 : decode cX6_nextBehind 17 = .ok (.iload_n 2, 1) := by decide +kernel
theorem dX6_nextBehind_18 : decode cX6_nextBehind 18 = .ok (.iaload, 1) := by decide +kernel
theorem dX6_nextBehind_19 : decode cX6_nextBehind 19 = .ok (.istore_n 3, 1) := by decide +kernel
theorem dX6_nextBehind_20 : decode cX6_nextBehind 20 = .ok (.iload_n 1, 1) := by decide +kernel
theorem dX6_nextBehind_21 : decode cX6_nextBehind 21 = .ok (.iload_n 2, 1) := by decide +kernel
theorem dX6_nextBehind_22 : decode cX6_nextBehind 22 = .ok (.invokestatic 31, 3) := by decide +kernel
theorem dX6_nextBehind_25 : decode cX6_nextBehind 25 = .ok (.ifCond .ne 22, 3) := by decide +kernel
theorem dX6_nextBehind_28 : decode cX6_nextBehind 28 = .ok (.aload_n 0, 1) := by decide +kernel
theorem dX6_nextBehind_29 : decode cX6_nextBehind 29 = .ok (.getfield 15, 3) := by decide +kernel
theorem dX6_nextBehind_32 : decode cX6_nextBehind 32 = .ok (.iload_n 2, 1) := by decide +kernel
theorem dX6_nextBehind_33 : decode cX6_nextBehind 33 = .ok (.iaload, 1) := by decide +kernel
theorem dX6_nextBehind_34 : decode cX6_nextBehind 34 = .ok (.iload_n 3, 1) := by decide +kernel
theorem dX6_nextBehind_35 : decode cX6_nextBehind 35 = .ok (.iconst (-1), 1) := by decide +kernel
theorem dX6_nextBehind_36 : decode cX6_nextBehind 36 = .ok (.ixor, 1) := by decide +kernel
theorem dX6_nextBehind_37 : decode cX6_nextBehind 37 = .ok (.iand, 1) := by decide +kernel
theorem dX6_nextBehind_38 : decode cX6_nextBehind 38 = .ok (.iload_n 1, 1) := by decide +kernel
theorem dX6_nextBehind_39 : decode cX6_nextBehind 39 = .ok (.iconst (-1), 1) := by decide +kernel
theorem dX6_nextBehind_40 : decode cX6_nextBehind 40 = .ok (.ixor, 1) := by decide +kernel
theorem dX6_nextBehind_41 : decode cX6_nextBehind 41 = .ok (.iand, 1) := by decide +kernel
theorem dX6_nextBehind_42 : decode cX6_nextBehind 42 = .ok (.ifCond .ne 5, 3) := by decide +kernel
theorem dX6_nextBehind_45 : decode cX6_nextBehind 45 = .ok (.iload_n 2, 1) := by decide +kernel
theorem dX6_nextBehind_46 : decode cX6_nextBehind 46 = .ok (.ireturn, 1) := by decide +kernel
theorem dX6_nextBehind_47 : decode cX6_nextBehind 47 = .ok (.iinc 2 1, 3) := by decide +kernel
theorem dX6_nextBehind_50 : decode cX6_nextBehind 50 = .ok (.goto (-48), 3) := by decide +kernel
theorem dX6_nextBehind_53 : decode cX6_nextBehind 53 = .ok (.iconst (-1), 1) := by decide +kernel
theorem dX6_nextBehind_54 : decode cX6_nextBehind 54 = .ok (.ireturn, 1) := by decide +kernel
theorem dX6_placeModules_0 : decode cX6_placeModules 0 = .ok (.iconst 0, 1) := by decide +kernel
theorem dX6_placeModules_1 : decode cX6_placeModules 1 = .ok (.istore_n 3, 1) := by decide +kernel
theorem dX6_placeModules_2 : decode cX6_placeModules 2 = .ok (.iload_n 3, 1) := by decide +kernel
theorem dX6_placeModules_3 : decode cX6_placeModules 3 = .ok (.aload_n 0, 1) := by decide +kernel
theorem dX6_placeModules_4 : decode cX6_placeModules 4 = .ok (.getfield 27, 3) := by decide +kernel
theorem dX6_placeModules_7 : decode cX6_placeModules 7 = .ok (.getfield 38, 3) := by decide +kernel
theorem dX6_placeModules_10 : decode cX6_placeModules 10 = .ok (.if_icmp .ge 24, 3) := by decide +kernel
theorem dX6_placeModules_13 : decode cX6_placeModules 13 = .ok (.iload_n 1, 1) := by decide +kernel
theorem dX6_placeModules_14 : decode cX6_placeModules 14 = .ok (.iload_n 3, 1) := by decide +kernel
theorem dX6_placeModules_15 : decode cX6_placeModules 15 = .ok (.invokestatic 31, 3) := by decide +kernel
theorem dX6_placeModules_18 : decode cX6_placeModules 18 = .ok (.ifCond .eq 10, 3) := by decide +kernel
theorem dX6_placeModules_21 : decode cX6_placeModules 21 = .ok (.aload_n 0, 1) := by decide +kernel
theorem dX6_placeModules_22 : decode cX6_placeModules 22 = .ok (.getfield 21, 3) := by decide +kernel
theorem dX6_placeModules_25 : decode cX6_placeModules 25 = .ok (.iload_n 3, 1) := by decide +kernel
theorem dX6_placeModules_26 : decode cX6_placeModules 26 = .ok (.iload_n 2, 1) := by decide +kernel
theorem dX6_placeModules_27 : decode cX6_placeModules 27 = .ok (.iastore, 1) := by decide +kernel
theorem dX6_placeModules_28 : decode cX6_placeModules 28 = .ok (.iinc 3 1, 3) := by decide +kernel
theorem dX6_placeModules_31 : decode cX6_placeModules 31 = .ok (.goto (-29), 3) := by decide +kernel
theorem dX6_placeModules_34 : decode cX6_placeModules 34 = .ok (.return_, 1) := by decide +kernel
theorem dX7_init_0 : decode cX7_init 0 = .ok (.aload_n 0, 1) := by decide +kernel
theorem dX7_init_1 : decode cX7_init 1 = .ok (.invokespecial 1, 3) := by decide +kernel
