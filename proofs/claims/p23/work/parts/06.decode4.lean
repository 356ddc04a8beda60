theorem dX9_isHeld_13 : decode cX9_isHeld 13 = .ok (.aaload, 1) := by decide +kernel
theorem dX9_isHeld_14 : decode cX9_isHeld 14 = .ok (.aload_n 1, 1) := by decide +kernel
theorem dX9_isHeld_15 : decode cX9_isHeld 15 = .ok (.if_acmp .ne 5, 3) := by decide +kernel
theorem dX9_isHeld_18 : decode cX9_isHeld 18 = .ok (.iconst 1, 1) := by decide +kernel
theorem dX9_isHeld_19 : decode cX9_isHeld 19 = .ok (.ireturn, 1) := by decide +kernel
theorem dX9_isHeld_20 : decode cX9_isHeld 20 = .ok (.iinc 2 1, 3) := by decide +kernel
theorem dX9_isHeld_23 : decode cX9_isHeld 23 = .ok (.goto (-21), 3) := by decide +kernel
theorem dX9_isHeld_26 : decode cX9_isHeld 26 = .ok (.aload_n 0, 1) := by decide +kernel
theorem dX9_isHeld_27 : decode cX9_isHeld 27 = .ok (.getfield 34, 3) := by decide +kernel
theorem dX9_isHeld_30 : decode cX9_isHeld 30 = .ok (.aload_n 1, 1) := by decide +kernel
theorem dX9_isHeld_31 : decode cX9_isHeld 31 = .ok (.invokevirtual 181, 3) := by decide +kernel
theorem dX9_isHeld_34 : decode cX9_isHeld 34 = .ok (.ireturn, 1) := by decide +kernel
theorem dX9_noteAnswers_0 : decode cX9_noteAnswers 0 = .ok (.iconst 0, 1) := by decide +kernel
theorem dX9_noteAnswers_1 : decode cX9_noteAnswers 1 = .ok (.istore_n 2, 1) := by decide +kernel
theorem dX9_noteAnswers_2 : decode cX9_noteAnswers 2 = .ok (.iload_n 2, 1) := by decide +kernel
theorem dX9_noteAnswers_3 : decode cX9_noteAnswers 3 = .ok (.bipush 8, 2) := by decide +kernel
theorem dX9_noteAnswers_5 : decode cX9_noteAnswers 5 = .ok (.if_icmp .ge 62, 3) := by decide +kernel
theorem dX9_noteAnswers_8 : decode cX9_noteAnswers 8 = .ok (.iconst 0, 1) := by decide +kernel
theorem dX9_noteAnswers_9 : decode cX9_noteAnswers 9 = .ok (.istore_n 3, 1) := by decide +kernel
theorem dX9_noteAnswers_10 : decode cX9_noteAnswers 10 = .ok (.iload_n 3, 1) := by decide +kernel
theorem dX9_noteAnswers_11 : decode cX9_noteAnswers 11 = .ok (.sipush 128, 3) := by decide +kernel
theorem dX9_noteAnswers_14 : decode cX9_noteAnswers 14 = .ok (.if_icmp .ge 47, 3) := by decide +kernel
theorem dX9_noteAnswers_17 : decode cX9_noteAnswers 17 = .ok (.aload_n 1, 1) := by decide +kernel
theorem dX9_noteAnswers_18 : decode cX9_noteAnswers 18 = .ok (.getfield 113, 3) := by decide +kernel
theorem dX9_noteAnswers_21 : decode cX9_noteAnswers 21 = .ok (.iload_n 2, 1) := by decide +kernel
theorem dX9_noteAnswers_22 : decode cX9_noteAnswers 22 = .ok (.invokestatic 109, 3) := by decide +kernel
theorem dX9_noteAnswers_25 : decode cX9_noteAnswers 25 = .ok (.ifCond .eq 36, 3) := by decide +kernel
theorem dX9_noteAnswers_28 : decode cX9_noteAnswers 28 = .ok (.aload_n 0, 1) := by decide +kernel
theorem dX9_noteAnswers_29 : decode cX9_noteAnswers 29 = .ok (.getfield 21, 3) := by decide +kernel
theorem dX9_noteAnswers_32 : decode cX9_noteAnswers 32 = .ok (.iload_n 2, 1) := by decide +kernel
theorem dX9_noteAnswers_33 : decode cX9_noteAnswers 33 = .ok (.iload_n 3, 1) := by decide +kernel
theorem dX9_noteAnswers_34 : decode cX9_noteAnswers 34 = .ok (.invokevirtual 184, 3) := by decide +kernel
theorem dX9_noteAnswers_37 : decode cX9_noteAnswers 37 = .ok (.ifCond .eq 18, 3) := by decide +kernel
theorem dX9_noteAnswers_40 : decode cX9_noteAnswers 40 = .ok (.aload_n 1, 1) := by decide +kernel
theorem dX9_noteAnswers_41 : decode cX9_noteAnswers 41 = .ok (.getfield 120, 3) := by decide +kernel
theorem dX9_noteAnswers_44 : decode cX9_noteAnswers 44 = .ok (.iload_n 3, 1) := by decide +kernel
theorem dX9_noteAnswers_45 : decode cX9_noteAnswers 45 = .ok (.aload_n 0, 1) := by decide +kernel
theorem dX9_noteAnswers_46 : decode cX9_noteAnswers 46 = .ok (.iload_n 3, 1) := by decide +kernel
theorem dX9_noteAnswers_47 : decode cX9_noteAnswers 47 = .ok (.aload_n 1, 1) := by decide +kernel
theorem dX9_noteAnswers_48 : decode cX9_noteAnswers 48 = .ok (.getfield 113, 3) := by decide +kernel
theorem dX9_noteAnswers_51 : decode cX9_noteAnswers 51 = .ok (.invokevirtual 126, 3) := by decide +kernel
theorem dX9_noteAnswers_54 : decode cX9_noteAnswers 54 = .ok (.lastore, 1) := by decide +kernel
theorem dX9_noteAnswers_55 : decode cX9_noteAnswers 55 = .ok (.iinc 3 1, 3) := by decide +kernel
theorem dX9_noteAnswers_58 : decode cX9_noteAnswers 58 = .ok (.goto (-48), 3) := by decide +kernel
theorem dX9_noteAnswers_61 : decode cX9_noteAnswers 61 = .ok (.iinc 2 1, 3) := by decide +kernel
theorem dX9_noteAnswers_64 : decode cX9_noteAnswers 64 = .ok (.goto (-62), 3) := by decide +kernel
theorem dX9_noteAnswers_67 : decode cX9_noteAnswers 67 = .ok (.return_, 1) := by decide +kernel
theorem dX10_init_0 : decode cX10_init 0 = .ok (.aload_n 0, 1) := by decide +kernel
theorem dX10_init_1 : decode cX10_init 1 = .ok (.invokespecial 3, 3) := by decide +kernel
theorem dX10_init_4 : decode cX10_init 4 = .ok (.aload_n 0, 1) := by decide +kernel
theorem dX10_init_5 : decode cX10_init 5 = .ok (.new 9, 3) := by decide +kernel
theorem dX10_init_8 : decode cX10_init 8 = .ok (.dup, 1) := by decide +kernel
theorem dX10_init_9 : decode cX10_init 9 = .ok (.invokespecial 11, 3) := by decide +kernel
theorem dX10_init_12 : decode cX10_init 12 = .ok (.putfield 12, 3) := by decide +kernel
theorem dX10_init_15 : decode cX10_init 15 = .ok (.aload_n 0, 1) := by decide +kernel
theorem dX10_init_16 : decode cX10_init 16 = .ok (.new 16, 3) := by decide +kernel
theorem dX10_init_19 : decode cX10_init 19 = .ok (.dup, 1) := by decide +kernel
theorem dX10_init_20 : decode cX10_init 20 = .ok (.aload_n 0, 1) := by decide +kernel
theorem dX10_init_21 : decode cX10_init 21 = .ok (.getfield 12, 3) := by decide +kernel
theorem dX10_init_24 : decode cX10_init 24 = .ok (.invokespecial 18, 3) := by decide +kernel
theorem dX10_init_27 : decode cX10_init 27 = .ok (.putfield 21, 3) := by decide +kernel
theorem dX10_init_30 : decode cX10_init 30 = .ok (.aload_n 0, 1) := by decide +kernel
theorem dX10_init_31 : decode cX10_init 31 = .ok (.new 25, 3) := by decide +kernel
theorem dX10_init_34 : decode cX10_init 34 = .ok (.dup, 1) := by decide +kernel
theorem dX10_init_35 : decode cX10_init 35 = .ok (.aload_n 0, 1) := by decide +kernel
theorem dX10_init_36 : decode cX10_init 36 = .ok (.getfield 12, 3) := by decide +kernel
theorem dX10_init_39 : decode cX10_init 39 = .ok (.invokespecial 27, 3) := by decide +kernel
theorem dX10_init_42 : decode cX10_init 42 = .ok (.putfield 28, 3) := by decide +kernel
theorem dX10_init_45 : decode cX10_init 45 = .ok (.aload_n 0, 1) := by decide +kernel
theorem dX10_init_46 : decode cX10_init 46 = .ok (.new 32, 3) := by decide +kernel
theorem dX10_init_49 : decode cX10_init 49 = .ok (.dup, 1) := by decide +kernel
theorem dX10_init_50 : decode cX10_init 50 = .ok (.aload_n 0, 1) := by decide +kernel
theorem dX10_init_51 : decode cX10_init 51 = .ok (.getfield 12, 3) := by decide +kernel
theorem dX10_init_54 : decode cX10_init 54 = .ok (.aload_n 0, 1) := by decide +kernel
theorem dX10_init_55 : decode cX10_init 55 = .ok (.getfield 21, 3) := by decide +kernel
theorem dX10_init_58 : decode cX10_init 58 = .ok (.aload_n 0, 1) := by decide +kernel
theorem dX10_init_59 : decode cX10_init 59 = .ok (.getfield 28, 3) := by decide +kernel
theorem dX10_init_62 : decode cX10_init 62 = .ok (.bipush 10, 2) := by decide +kernel
theorem dX10_init_64 : decode cX10_init 64 = .ok (.invokespecial 34, 3) := by decide +kernel
theorem dX10_init_67 : decode cX10_init 67 = .ok (.putfield 37, 3) := by decide +kernel
theorem dX10_init_70 : decode cX10_init 70 = .ok (.aload_n 0, 1) := by decide +kernel
theorem dX10_init_71 : decode cX10_init 71 = .ok (.new 32, 3) := by decide +kernel
theorem dX10_init_74 : decode cX10_init 74 = .ok (.dup, 1) := by decide +kernel
theorem dX10_init_75 : decode cX10_init 75 = .ok (.new 9, 3) := by decide +kernel
theorem dX10_init_78 : decode cX10_init 78 = .ok (.dup, 1) := by decide +kernel
theorem dX10_init_79 : decode cX10_init 79 = .ok (.invokespecial 11, 3) := by decide +kernel
theorem dX10_init_82 : decode cX10_init 82 = .ok (.aload_n 0, 1) := by decide +kernel
theorem dX10_init_83 : decode cX10_init 83 = .ok (.getfield 21, 3) := by decide +kernel
theorem dX10_init_86 : decode cX10_init 86 = .ok (.aload_n 0, 1) := by decide +kernel
theorem dX10_init_87 : decode cX10_init 87 = .ok (.getfield 28, 3) := by decide +kernel
theorem dX10_init_90 : decode cX10_init 90 = .ok (.iconst 0, 1) := by decide +kernel
theorem dX10_init_91 : decode cX10_init 91 = .ok (.invokespecial 34, 3) := by decide +kernel
theorem dX10_init_94 : decode cX10_init 94 = .ok (.putfield 41, 3) := by decide +kernel
theorem dX10_init_97 : decode cX10_init 97 = .ok (.aload_n 0, 1) := by decide +kernel
theorem dX10_init_98 : decode cX10_init 98 = .ok (.sipush 800, 3) := by decide +kernel
theorem dX10_init_101 : decode cX10_init 101 = .ok (.newarray .int, 2) := by decide +kernel
theorem dX10_init_103 : decode cX10_init 103 = .ok (.putfield 44, 3) := by decide +kernel
theorem dX10_init_106 : decode cX10_init 106 = .ok (.aload_n 0, 1) := by decide +kernel
theorem dX10_init_107 : decode cX10_init 107 = .ok (.bipush 8, 2) := by decide +kernel
theorem dX10_init_109 : decode cX10_init 109 = .ok (.newarray .int, 2) := by decide +kernel
theorem dX10_init_111 : decode cX10_init 111 = .ok (.putfield 48, 3) := by decide +kernel
theorem dX10_init_114 : decode cX10_init 114 = .ok (.aload_n 0, 1) := by decide +kernel
theorem dX10_init_115 : decode cX10_init 115 = .ok (.bipush 8, 2) := by decide +kernel
theorem dX10_init_117 : decode cX10_init 117 = .ok (.newarray .int, 2) := by decide +kernel
theorem dX10_init_119 : decode cX10_init 119 = .ok (.putfield 51, 3) := by decide +kernel
theorem dX10_init_122 : decode cX10_init 122 = .ok (.return_, 1) := by decide +kernel
theorem dX10_module_0 : decode cX10_module 0 = .ok (.aload_n 0, 1) := by decide +kernel
theorem dX10_module_1 : decode cX10_module 1 = .ok (.getfield 12, 3) := by decide +kernel
theorem dX10_module_4 : decode cX10_module 4 = .ok (.getfield 54, 3) := by decide +kernel
theorem dX10_module_7 : decode cX10_module 7 = .ok (.bipush 8, 2) := by decide +kernel
theorem dX10_module_9 : decode cX10_module 9 = .ok (.if_icmp .lt 13, 3) := by decide +kernel
theorem dX10_module_12 : decode cX10_module 12 = .ok (.new 58, 3) := by decide +kernel
theorem dX10_module_15 : decode cX10_module 15 = .ok (.dup, 1) := by decide +kernel
theorem dX10_module_16 : decode cX10_module 16 = .ok (.ldc 60, 2) := by decide +kernel
theorem dX10_module_18 : decode cX10_module 18 = .ok (.invokespecial 62, 3) := by decide +kernel
theorem dX10_module_21 : decode cX10_module 21 = .ok (.athrow, 1) := by decide +kernel
theorem dX10_module_22 : decode cX10_module 22 = .ok (.aload_n 0, 1) := by decide +kernel
theorem dX10_module_23 : decode cX10_module 23 = .ok (.getfield 12, 3) := by decide +kernel
theorem dX10_module_26 : decode cX10_module 26 = .ok (.dup, 1) := by decide +kernel
theorem dX10_module_27 : decode cX10_module 27 = .ok (.getfield 54, 3) := by decide +kernel
theorem dX10_module_30 : decode cX10_module 30 = .ok (.iconst 1, 1) := by decide +kernel
theorem dX10_module_31 : decode cX10_module 31 = .ok (.iadd, 1) := by decide +kernel
theorem dX10_module_32 : decode cX10_module 32 = .ok (.putfield 54, 3) := by decide +kernel
theorem dX10_module_35 : decode cX10_module 35 = .ok (.aload_n 0, 1) := by decide +kernel
theorem dX10_module_36 : decode cX10_module 36 = .ok (.invokevirtual 65, 3) := by decide +kernel
theorem dX10_module_39 : decode cX10_module 39 = .ok (.aload_n 0, 1) := by decide +kernel
theorem dX10_module_40 : decode cX10_module 40 = .ok (.getfield 12, 3) := by decide +kernel
theorem dX10_module_43 : decode cX10_module 43 = .ok (.getfield 54, 3) := by decide +kernel
theorem dX10_module_46 : decode cX10_module 46 = .ok (.iconst 1, 1) := by decide +kernel
theorem dX10_module_47 : decode cX10_module 47 = .ok (.isub, 1) := by decide +kernel
theorem dX10_module_48 : decode cX10_module 48 = .ok (.ireturn, 1) := by decide +kernel
theorem dX10_declare_0 : decode cX10_declare 0 = .ok (.aload_n 0, 1) := by decide +kernel
theorem dX10_declare_1 : decode cX10_declare 1 = .ok (.iload_n 1, 1) := by decide +kernel
theorem dX10_declare_2 : decode cX10_declare 2 = .ok (.invokevirtual 68, 3) := by decide +kernel
theorem dX10_declare_5 : decode cX10_declare 5 = .ok (.iload_n 2, 1) := by decide +kernel
theorem dX10_declare_6 : decode cX10_declare 6 = .ok (.iconst 0, 1) := by decide +kernel
theorem dX10_declare_7 : decode cX10_declare 7 = .ok (.bipush 15, 2) := by decide +kernel
theorem dX10_declare_9 : decode cX10_declare 9 = .ok (.invokestatic 72, 3) := by decide +kernel
theorem dX10_declare_12 : decode cX10_declare 12 = .ok (.iload_n 3, 1) := by decide +kernel
theorem dX10_declare_13 : decode cX10_declare 13 = .ok (.iconst 0, 1) := by decide +kernel
theorem dX10_declare_14 : decode cX10_declare 14 = .ok (.iconst 1, 1) := by decide +kernel
theorem dX10_declare_15 : decode cX10_declare 15 = .ok (.invokestatic 72, 3) := by decide +kernel
theorem dX10_declare_18 : decode cX10_declare 18 = .ok (.iload 5, 2) := by decide +kernel
theorem dX10_declare_20 : decode cX10_declare 20 = .ok (.bipush (-99), 2) := by decide +kernel
theorem dX10_declare_22 : decode cX10_declare 22 = .ok (.bipush 99, 2) := by decide +kernel
theorem dX10_declare_24 : decode cX10_declare 24 = .ok (.invokestatic 72, 3) := by decide +kernel
theorem dX10_declare_27 : decode cX10_declare 27 = .ok (.iload 6, 2) := by decide +kernel
theorem dX10_declare_29 : decode cX10_declare 29 = .ok (.iconst (-1), 1) := by decide +kernel
theorem dX10_declare_30 : decode cX10_declare 30 = .ok (.bipush 15, 2) := by decide +kernel
theorem dX10_declare_32 : decode cX10_declare 32 = .ok (.invokestatic 72, 3) := by decide +kernel
theorem dX10_declare_35 : decode cX10_declare 35 = .ok (.iload 7, 2) := by decide +kernel
theorem dX10_declare_37 : decode cX10_declare 37 = .ok (.iconst (-1), 1) := by decide +kernel
theorem dX10_declare_38 : decode cX10_declare 38 = .ok (.bipush 15, 2) := by decide +kernel
theorem dX10_declare_40 : decode cX10_declare 40 = .ok (.invokestatic 72, 3) := by decide +kernel
theorem dX10_declare_43 : decode cX10_declare 43 = .ok (.iload_n 1, 1) := by decide +kernel
theorem dX10_declare_44 : decode cX10_declare 44 = .ok (.bipush 16, 2) := by decide +kernel
theorem dX10_declare_46 : decode cX10_declare 46 = .ok (.imul, 1) := by decide +kernel
theorem dX10_declare_47 : decode cX10_declare 47 = .ok (.iload_n 2, 1) := by decide +kernel
theorem dX10_declare_48 : decode cX10_declare 48 = .ok (.iadd, 1) := by decide +kernel
theorem dX10_declare_49 : decode cX10_declare 49 = .ok (.istore 8, 2) := by decide +kernel
theorem dX10_declare_51 : decode cX10_declare 51 = .ok (.aload_n 0, 1) := by decide +kernel
theorem dX10_declare_52 : decode cX10_declare 52 = .ok (.getfield 12, 3) := by decide +kernel
theorem dX10_declare_55 : decode cX10_declare 55 = .ok (.iload 8, 2) := by decide +kernel
theorem dX10_declare_57 : decode cX10_declare 57 = .ok (.invokevirtual 76, 3) := by decide +kernel
theorem dX10_declare_60 : decode cX10_declare 60 = .ok (.ifCond .ne 26, 3) := by decide +kernel
theorem dX10_declare_63 : decode cX10_declare 63 = .ok (.aload_n 0, 1) := by decide +kernel
theorem dX10_declare_64 : decode cX10_declare 64 = .ok (.getfield 12, 3) := by decide +kernel
theorem dX10_declare_67 : decode cX10_declare 67 = .ok (.iload_n 1, 1) := by decide +kernel
theorem dX10_declare_68 : decode cX10_declare 68 = .ok (.invokevirtual 80, 3) := by decide +kernel
theorem dX10_declare_71 : decode cX10_declare 71 = .ok (.bipush 6, 2) := by decide +kernel
theorem dX10_declare_73 : decode cX10_declare 73 = .ok (.if_icmp .lt 13, 3) := by decide +kernel
theorem dX10_declare_76 : decode cX10_declare 76 = .ok (.new 58, 3) := by decide +kernel
theorem dX10_declare_79 : decode cX10_declare 79 = .ok (.dup, 1) := by decide +kernel
theorem dX10_declare_80 : decode cX10_declare 80 = .ok (.ldc 84, 2) := by decide +kernel
theorem dX10_declare_82 : decode cX10_declare 82 = .ok (.invokespecial 62, 3) := by decide +kernel
theorem dX10_declare_85 : decode cX10_declare 85 = .ok (.athrow, 1) := by decide +kernel
theorem dX10_declare_86 : decode cX10_declare 86 = .ok (.aload_n 0, 1) := by decide +kernel
theorem dX10_declare_87 : decode cX10_declare 87 = .ok (.getfield 12, 3) := by decide +kernel
theorem dX10_declare_90 : decode cX10_declare 90 = .ok (.getfield 86, 3) := by decide +kernel
theorem dX10_declare_93 : decode cX10_declare 93 = .ok (.iload 8, 2) := by decide +kernel
theorem dX10_declare_95 : decode cX10_declare 95 = .ok (.iload_n 3, 1) := by decide +kernel
theorem dX10_declare_96 : decode cX10_declare 96 = .ok (.iload 4, 2) := by decide +kernel
theorem dX10_declare_98 : decode cX10_declare 98 = .ok (.iload 5, 2) := by decide +kernel
theorem dX10_declare_100 : decode cX10_declare 100 = .ok (.iload 6, 2) := by decide +kernel
theorem dX10_declare_102 : decode cX10_declare 102 = .ok (.iload 7, 2) := by decide +kernel
theorem dX10_declare_104 : decode cX10_declare 104 = .ok (.invokestatic 89, 3) := by decide +kernel
theorem dX10_declare_107 : decode cX10_declare 107 = .ok (.iastore, 1) := by decide +kernel
theorem dX10_declare_108 : decode cX10_declare 108 = .ok (.aload_n 0, 1) := by decide +kernel
theorem dX10_declare_109 : decode cX10_declare 109 = .ok (.invokevirtual 65, 3) := by decide +kernel
theorem dX10_declare_112 : decode cX10_declare 112 = .ok (.aload_n 0, 1) := by decide +kernel
theorem dX10_declare_113 : decode cX10_declare 113 = .ok (.getfield 12, 3) := by decide +kernel
theorem dX10_declare_116 : decode cX10_declare 116 = .ok (.iload_n 1, 1) := by decide +kernel
theorem dX10_declare_117 : decode cX10_declare 117 = .ok (.invokevirtual 80, 3) := by decide +kernel
theorem dX10_declare_120 : decode cX10_declare 120 = .ok (.ireturn, 1) := by decide +kernel
theorem dX10_drop_0 : decode cX10_drop 0 = .ok (.aload_n 0, 1) := by decide +kernel
theorem dX10_drop_1 : decode cX10_drop 1 = .ok (.iload_n 1, 1) := by decide +kernel
theorem dX10_drop_2 : decode cX10_drop 2 = .ok (.invokevirtual 68, 3) := by decide +kernel
theorem dX10_drop_5 : decode cX10_drop 5 = .ok (.iload_n 2, 1) := by decide +kernel
theorem dX10_drop_6 : decode cX10_drop 6 = .ok (.iconst 0, 1) := by decide +kernel
theorem dX10_drop_7 : decode cX10_drop 7 = .ok (.bipush 15, 2) := by decide +kernel
theorem dX10_drop_9 : decode cX10_drop 9 = .ok (.invokestatic 72, 3) := by decide +kernel
theorem dX10_drop_12 : decode cX10_drop 12 = .ok (.iload_n 1, 1) := by decide +kernel
theorem dX10_drop_13 : decode cX10_drop 13 = .ok (.bipush 16, 2) := by decide +kernel
theorem dX10_drop_15 : decode cX10_drop 15 = .ok (.imul, 1) := by decide +kernel
theorem dX10_drop_16 : decode cX10_drop 16 = .ok (.iload_n 2, 1) := by decide +kernel
theorem dX10_drop_17 : decode cX10_drop 17 = .ok (.iadd, 1) := by decide +kernel
theorem dX10_drop_18 : decode cX10_drop 18 = .ok (.istore_n 3, 1) := by decide +kernel
theorem dX10_drop_19 : decode cX10_drop 19 = .ok (.aload_n 0, 1) := by decide +kernel
theorem dX10_drop_20 : decode cX10_drop 20 = .ok (.getfield 12, 3) := by decide +kernel
theorem dX10_drop_23 : decode cX10_drop 23 = .ok (.iload_n 3, 1) := by decide +kernel
theorem dX10_drop_24 : decode cX10_drop 24 = .ok (.invokevirtual 76, 3) := by decide +kernel
theorem dX10_drop_27 : decode cX10_drop 27 = .ok (.istore 4, 2) := by decide +kernel
theorem dX10_drop_29 : decode cX10_drop 29 = .ok (.aload_n 0, 1) := by decide +kernel
theorem dX10_drop_30 : decode cX10_drop 30 = .ok (.getfield 12, 3) := by decide +kernel
theorem dX10_drop_33 : decode cX10_drop 33 = .ok (.getfield 86, 3) := by decide +kernel
theorem dX10_drop_36 : decode cX10_drop 36 = .ok (.iload_n 3, 1) := by decide +kernel
theorem dX10_drop_37 : decode cX10_drop 37 = .ok (.iconst 0, 1) := by decide +kernel
theorem dX10_drop_38 : decode cX10_drop 38 = .ok (.iastore, 1) := by decide +kernel
theorem dX10_drop_39 : decode cX10_drop 39 = .ok (.aload_n 0, 1) := by decide +kernel
theorem dX10_drop_40 : decode cX10_drop 40 = .ok (.invokevirtual 65, 3) := by decide +kernel
theorem dX10_drop_43 : decode cX10_drop 43 = .ok (.iload 4, 2) := by decide +kernel
theorem dX10_drop_45 : decode cX10_drop 45 = .ok (.ireturn, 1) := by decide +kernel
theorem dX10_bring_0 : decode cX10_bring 0 = .ok (.aload_n 0, 1) := by decide +kernel
theorem dX10_bring_1 : decode cX10_bring 1 = .ok (.iload_n 1, 1) := by decide +kernel
theorem dX10_bring_2 : decode cX10_bring 2 = .ok (.invokevirtual 68, 3) := by decide +kernel
theorem dX10_bring_5 : decode cX10_bring 5 = .ok (.iload_n 2, 1) := by decide +kernel
theorem dX10_bring_6 : decode cX10_bring 6 = .ok (.iconst 0, 1) := by decide +kernel
theorem dX10_bring_7 : decode cX10_bring 7 = .ok (.bipush 7, 2) := by decide +kernel
theorem dX10_bring_9 : decode cX10_bring 9 = .ok (.invokestatic 72, 3) := by decide +kernel
theorem dX10_bring_12 : decode cX10_bring 12 = .ok (.iload_n 3, 1) := by decide +kernel
theorem dX10_bring_13 : decode cX10_bring 13 = .ok (.iconst (-1), 1) := by decide +kernel
theorem dX10_bring_14 : decode cX10_bring 14 = .ok (.bipush 15, 2) := by decide +kernel
theorem dX10_bring_16 : decode cX10_bring 16 = .ok (.invokestatic 72, 3) := by decide +kernel
theorem dX10_bring_19 : decode cX10_bring 19 = .ok (.iload 4, 2) := by decide +kernel
theorem dX10_bring_21 : decode cX10_bring 21 = .ok (.iconst 0, 1) := by decide +kernel
theorem dX10_bring_22 : decode cX10_bring 22 = .ok (.bipush 15, 2) := by decide +kernel
theorem dX10_bring_24 : decode cX10_bring 24 = .ok (.invokestatic 72, 3) := by decide +kernel
theorem dX10_bring_27 : decode cX10_bring 27 = .ok (.iload_n 2, 1) := by decide +kernel
theorem dX10_bring_28 : decode cX10_bring 28 = .ok (.iload_n 1, 1) := by decide +kernel
theorem dX10_bring_29 : decode cX10_bring 29 = .ok (.if_icmp .ne 13, 3) := by decide +kernel
theorem dX10_bring_32 : decode cX10_bring 32 = .ok (.new 95, 3) := by decide +kernel
theorem dX10_bring_35 : decode cX10_bring 35 = .ok (.dup, 1) := by decide +kernel
theorem dX10_bring_36 : decode cX10_bring 36 = .ok (.ldc 97, 2) := by decide +kernel
theorem dX10_bring_38 : decode cX10_bring 38 = .ok (.invokespecial 99, 3) := by decide +kernel
theorem dX10_bring_41 : decode cX10_bring 41 = .ok (.athrow, 1) := by decide +kernel
theorem dX10_bring_42 : decode cX10_bring 42 = .ok (.iload_n 3, 1) := by decide +kernel
theorem dX10_bring_43 : decode cX10_bring 43 = .ok (.iconst (-1), 1) := by decide +kernel
theorem dX10_bring_44 : decode cX10_bring 44 = .ok (.if_icmp .ne 18, 3) := by decide +kernel
theorem dX10_bring_47 : decode cX10_bring 47 = .ok (.iload 4, 2) := by decide +kernel
theorem dX10_bring_49 : decode cX10_bring 49 = .ok (.ifCond .eq 13, 3) := by decide +kernel
theorem dX10_bring_52 : decode cX10_bring 52 = .ok (.new 95, 3) := by decide +kernel
theorem dX10_bring_55 : decode cX10_bring 55 = .ok (.dup, 1) := by decide +kernel
theorem dX10_bring_56 : decode cX10_bring 56 = .ok (.ldc 100, 2) := by decide +kernel
theorem dX10_bring_58 : decode cX10_bring 58 = .ok (.invokespecial 99, 3) := by decide +kernel
theorem dX10_bring_61 : decode cX10_bring 61 = .ok (.athrow, 1) := by decide +kernel
theorem dX10_bring_62 : decode cX10_bring 62 = .ok (.aload_n 0, 1) := by decide +kernel
theorem dX10_bring_63 : decode cX10_bring 63 = .ok (.getfield 12, 3) := by decide +kernel
theorem dX10_bring_66 : decode cX10_bring 66 = .ok (.getfield 102, 3) := by decide +kernel
theorem dX10_bring_69 : decode cX10_bring 69 = .ok (.iload_n 1, 1) := by decide +kernel
theorem dX10_bring_70 : decode cX10_bring 70 = .ok (.iaload, 1) := by decide +kernel
theorem dX10_bring_71 : decode cX10_bring 71 = .ok (.iconst 5, 1) := by decide +kernel
theorem dX10_bring_72 : decode cX10_bring 72 = .ok (.if_icmp .lt 13, 3) := by decide +kernel
theorem dX10_bring_75 : decode cX10_bring 75 = .ok (.new 58, 3) := by decide +kernel
theorem dX10_bring_78 : decode cX10_bring 78 = .ok (.dup, 1) := by decide +kernel
theorem dX10_bring_79 : decode cX10_bring 79 = .ok (.ldc 105, 2) := by decide +kernel
theorem dX10_bring_81 : decode cX10_bring 81 = .ok (.invokespecial 62, 3) := by decide +kernel
theorem dX10_bring_84 : decode cX10_bring 84 = .ok (.athrow, 1) := by decide +kernel
theorem dX10_bring_85 : decode cX10_bring 85 = .ok (.aload_n 0, 1) := by decide +kernel
theorem dX10_bring_86 : decode cX10_bring 86 = .ok (.getfield 12, 3) := by decide +kernel
theorem dX10_bring_89 : decode cX10_bring 89 = .ok (.iload_n 1, 1) := by decide +kernel
theorem dX10_bring_90 : decode cX10_bring 90 = .ok (.iload_n 2, 1) := by decide +kernel
theorem dX10_bring_91 : decode cX10_bring 91 = .ok (.iload_n 3, 1) := by decide +kernel
theorem dX10_bring_92 : decode cX10_bring 92 = .ok (.iload 4, 2) := by decide +kernel
theorem dX10_bring_94 : decode cX10_bring 94 = .ok (.iload 5, 2) := by decide +kernel
theorem dX10_bring_96 : decode cX10_bring 96 = .ok (.invokestatic 107, 3) := by decide +kernel
theorem dX10_bring_99 : decode cX10_bring 99 = .ok (.invokevirtual 112, 3) := by decide +kernel
theorem dX10_bring_102 : decode cX10_bring 102 = .ok (.aload_n 0, 1) := by decide +kernel
theorem dX10_bring_103 : decode cX10_bring 103 = .ok (.invokevirtual 65, 3) := by decide +kernel
theorem dX10_bring_106 : decode cX10_bring 106 = .ok (.aload_n 0, 1) := by decide +kernel
theorem dX10_bring_107 : decode cX10_bring 107 = .ok (.getfield 12, 3) := by decide +kernel
theorem dX10_bring_110 : decode cX10_bring 110 = .ok (.getfield 102, 3) := by decide +kernel
theorem dX10_bring_113 : decode cX10_bring 113 = .ok (.iload_n 1, 1) := by decide +kernel
theorem dX10_bring_114 : decode cX10_bring 114 = .ok (.iaload, 1) := by decide +kernel
theorem dX10_bring_115 : decode cX10_bring 115 = .ok (.iconst 1, 1) := by decide +kernel
theorem dX10_bring_116 : decode cX10_bring 116 = .ok (.isub, 1) := by decide +kernel
theorem dX10_bring_117 : decode cX10_bring 117 = .ok (.ireturn, 1) := by decide +kernel
theorem dX10_leave_0 : decode cX10_leave 0 = .ok (.aload_n 0, 1) := by decide +kernel
theorem dX10_leave_1 : decode cX10_leave 1 = .ok (.iload_n 1, 1) := by decide +kernel
theorem dX10_leave_2 : decode cX10_leave 2 = .ok (.invokevirtual 68, 3) := by decide +kernel
theorem dX10_leave_5 : decode cX10_leave 5 = .ok (.iload_n 2, 1) := by decide +kernel
theorem dX10_leave_6 : decode cX10_leave 6 = .ok (.ifCond .lt 16, 3) := by decide +kernel
theorem dX10_leave_9 : decode cX10_leave 9 = .ok (.iload_n 2, 1) := by decide +kernel
theorem dX10_leave_10 : decode cX10_leave 10 = .ok (.aload_n 0, 1) := by decide +kernel
theorem dX10_leave_11 : decode cX10_leave 11 = .ok (.getfield 12, 3) := by decide +kernel
theorem dX10_leave_14 : decode cX10_leave 14 = .ok (.getfield 102, 3) := by decide +kernel
theorem dX10_leave_17 : decode cX10_leave 17 = .ok (.iload_n 1, 1) := by decide +kernel
theorem dX10_leave_18 : decode cX10_leave 18 = .ok (.iaload, 1) := by decide +kernel
theorem dX10_leave_19 : decode cX10_leave 19 = .ok (.if_icmp .lt 13, 3) := by decide +kernel
theorem dX10_leave_22 : decode cX10_leave 22 = .ok (.new 116, 3) := by decide +kernel
theorem dX10_leave_25 : decode cX10_leave 25 = .ok (.dup, 1) := by decide +kernel
theorem dX10_leave_26 : decode cX10_leave 26 = .ok (.ldc 118, 2) := by decide +kernel
theorem dX10_leave_28 : decode cX10_leave 28 = .ok (.invokespecial 120, 3) := by decide +kernel
theorem dX10_leave_31 : decode cX10_leave 31 = .ok (.athrow, 1) := by decide +kernel
theorem dX10_leave_32 : decode cX10_leave 32 = .ok (.aload_n 0, 1) := by decide +kernel
theorem dX10_leave_33 : decode cX10_leave 33 = .ok (.getfield 12, 3) := by decide +kernel
theorem dX10_leave_36 : decode cX10_leave 36 = .ok (.iload_n 1, 1) := by decide +kernel
theorem dX10_leave_37 : decode cX10_leave 37 = .ok (.iload_n 2, 1) := by decide +kernel
theorem dX10_leave_38 : decode cX10_leave 38 = .ok (.invokevirtual 121, 3) := by decide +kernel
theorem dX10_leave_41 : decode cX10_leave 41 = .ok (.aload_n 0, 1) := by decide +kernel
theorem dX10_leave_42 : decode cX10_leave 42 = .ok (.invokevirtual 65, 3) := by decide +kernel
theorem dX10_leave_45 : decode cX10_leave 45 = .ok (.aload_n 0, 1) := by decide +kernel
theorem dX10_leave_46 : decode cX10_leave 46 = .ok (.getfield 12, 3) := by decide +kernel
theorem dX10_leave_49 : decode cX10_leave 49 = .ok (.getfield 102, 3) := by decide +kernel
theorem dX10_leave_52 : decode cX10_leave 52 = .ok (.iload_n 1, 1) := by decide +kernel
theorem dX10_leave_53 : decode cX10_leave 53 = .ok (.iaload, 1) := by decide +kernel
theorem dX10_leave_54 : decode cX10_leave 54 = .ok (.ireturn, 1) := by decide +kernel
theorem dX10_ofModule_0 : decode cX10_ofModule 0 = .ok (.aload_n 0, 1) := by decide +kernel
theorem dX10_ofModule_1 : decode cX10_ofModule 1 = .ok (.iload_n 1, 1) := by decide +kernel
theorem dX10_ofModule_2 : decode cX10_ofModule 2 = .ok (.invokevirtual 68, 3) := by decide +kernel
theorem dX10_ofModule_5 : decode cX10_ofModule 5 = .ok (.iload_n 2, 1) := by decide +kernel
theorem dX10_ofModule_6 : decode cX10_ofModule 6 = .ok (.iconst 0, 1) := by decide +kernel
theorem dX10_ofModule_7 : decode cX10_ofModule 7 = .ok (.bipush 8, 2) := by decide +kernel
theorem dX10_ofModule_9 : decode cX10_ofModule 9 = .ok (.invokestatic 72, 3) := by decide +kernel
theorem dX10_ofModule_12 : decode cX10_ofModule 12 = .ok (.aload_n 0, 1) := by decide +kernel
theorem dX10_ofModule_13 : decode cX10_ofModule 13 = .ok (.getfield 28, 3) := by decide +kernel
theorem dX10_ofModule_16 : decode cX10_ofModule 16 = .ok (.getfield 124, 3) := by decide +kernel
theorem dX10_ofModule_19 : decode cX10_ofModule 19 = .ok (.iload_n 1, 1) := by decide +kernel
theorem dX10_ofModule_20 : decode cX10_ofModule 20 = .ok (.iaload, 1) := by decide +kernel
theorem dX10_ofModule_21 : decode cX10_ofModule 21 = .ok (.istore_n 3, 1) := by decide +kernel
theorem dX10_ofModule_22 : decode cX10_ofModule 22 = .ok (.iload_n 2, 1) := by decide +kernel
theorem dX10_ofModule_23 : decode cX10_ofModule 23 = .ok (.tableswitch 112 0 7 #[45, 54, 64, 69, 79, 89, 98, 105], 45) := by decide +kernel
theorem dX10_ofModule_68 : decode cX10_ofModule 68 = .ok (.aload_n 0, 1) := by decide +kernel
theorem dX10_ofModule_69 : decode cX10_ofModule 69 = .ok (.getfield 12, 3) := by decide +kernel
theorem dX10_ofModule_72 : decode cX10_ofModule 72 = .ok (.iload_n 1, 1) := by decide +kernel
theorem dX10_ofModule_73 : decode cX10_ofModule 73 = .ok (.invokevirtual 80, 3) := by decide +kernel
theorem dX10_ofModule_76 : decode cX10_ofModule 76 = .ok (.ireturn, 1) := by decide +kernel
theorem dX10_ofModule_77 : decode cX10_ofModule 77 = .ok (.aload_n 0, 1) := by decide +kernel
theorem dX10_ofModule_78 : decode cX10_ofModule 78 = .ok (.getfield 12, 3) := by decide +kernel
theorem dX10_ofModule_81 : decode cX10_ofModule 81 = .ok (.getfield 102, 3) := by decide +kernel
theorem dX10_ofModule_84 : decode cX10_ofModule 84 = .ok (.iload_n 1, 1) := by decide +kernel
theorem dX10_ofModule_85 : decode cX10_ofModule 85 = .ok (.iaload, 1) := by decide +kernel
theorem dX10_ofModule_86 : decode cX10_ofModule 86 = .ok (.ireturn, 1) := by decide +kernel
theorem dX10_ofModule_87 : decode cX10_ofModule 87 = .ok (.iload_n 3, 1) := by decide +kernel
theorem dX10_ofModule_88 : decode cX10_ofModule 88 = .ok (.invokestatic 127, 3) := by decide +kernel
theorem dX10_ofModule_91 : decode cX10_ofModule 91 = .ok (.ireturn, 1) := by decide +kernel
theorem dX10_ofModule_92 : decode cX10_ofModule 92 = .ok (.aload_n 0, 1) := by decide +kernel
theorem dX10_ofModule_93 : decode cX10_ofModule 93 = .ok (.getfield 28, 3) := by decide +kernel
theorem dX10_ofModule_96 : decode cX10_ofModule 96 = .ok (.getfield 130, 3) := by decide +kernel
theorem dX10_ofModule_99 : decode cX10_ofModule 99 = .ok (.iload_n 1, 1) := by decide +kernel
theorem dX10_ofModule_100 : decode cX10_ofModule 100 = .ok (.iaload, 1) := by decide +kernel
theorem dX10_ofModule_101 : decode cX10_ofModule 101 = .ok (.ireturn, 1) := by decide +kernel
theorem dX10_ofModule_102 : decode cX10_ofModule 102 = .ok (.aload_n 0, 1) := by decide +kernel
theorem dX10_ofModule_103 : decode cX10_ofModule 103 = .ok (.getfield 28, 3) := by decide +kernel
theorem dX10_ofModule_106 : decode cX10_ofModule 106 = .ok (.getfield 133, 3) := by decide +kernel
theorem dX10_ofModule_109 : decode cX10_ofModule 109 = .ok (.iload_n 1, 1) := by decide +kernel
theorem dX10_ofModule_110 : decode cX10_ofModule 110 = .ok (.iaload, 1) := by decide +kernel
theorem dX10_ofModule_111 : decode cX10_ofModule 111 = .ok (.ireturn, 1) := by decide +kernel
theorem dX10_ofModule_112 : decode cX10_ofModule 112 = .ok (.aload_n 0, 1) := by decide +kernel
theorem dX10_ofModule_113 : decode cX10_ofModule 113 = .ok (.getfield 21, 3) := by decide +kernel
theorem dX10_ofModule_116 : decode cX10_ofModule 116 = .ok (.iload_n 1, 1) := by decide +kernel
theorem dX10_ofModule_117 : decode cX10_ofModule 117 = .ok (.invokevirtual 136, 3) := by decide +kernel
theorem dX10_ofModule_120 : decode cX10_ofModule 120 = .ok (.ireturn, 1) := by decide +kernel
theorem dX10_ofModule_121 : decode cX10_ofModule 121 = .ok (.aload_n 0, 1) := by decide +kernel
theorem dX10_ofModule_122 : decode cX10_ofModule 122 = .ok (.getfield 48, 3) := by decide +kernel
theorem dX10_ofModule_125 : decode cX10_ofModule 125 = .ok (.iload_n 1, 1) := by decide +kernel
theorem dX10_ofModule_126 : decode cX10_ofModule 126 = .ok (.iaload, 1) := by decide +kernel
theorem dX10_ofModule_127 : decode cX10_ofModule 127 = .ok (.ireturn, 1) := by decide +kernel
theorem dX10_ofModule_128 : decode cX10_ofModule 128 = .ok (.aload_n 0, 1) := by decide +kernel
theorem dX10_ofModule_129 : decode cX10_ofModule 129 = .ok (.getfield 51, 3) := by decide +kernel
theorem dX10_ofModule_132 : decode cX10_ofModule 132 = .ok (.iload_n 1, 1) := by decide +kernel
theorem dX10_ofModule_133 : decode cX10_ofModule 133 = .ok (.iaload, 1) := by decide +kernel
theorem dX10_ofModule_134 : decode cX10_ofModule 134 = .ok (.ireturn, 1) := by decide +kernel
theorem dX10_ofModule_135 : decode cX10_ofModule 135 = .ok (.aload_n 0, 1) := by decide +kernel
theorem dX10_ofModule_136 : decode cX10_ofModule 136 = .ok (.getfield 37, 3) := by decide +kernel
theorem dX10_ofModule_139 : decode cX10_ofModule 139 = .ok (.iload_n 3, 1) := by decide +kernel
theorem dX10_ofModule_140 : decode cX10_ofModule 140 = .ok (.invokevirtual 139, 3) := by decide +kernel
theorem dX10_ofModule_143 : decode cX10_ofModule 143 = .ok (.ifCond .ne 7, 3) := by decide +kernel
theorem dX10_ofModule_146 : decode cX10_ofModule 146 = .ok (.iconst 0, 1) := by decide +kernel
theorem dX10_ofModule_147 : decode cX10_ofModule 147 = .ok (.goto 4, 3) := by decide +kernel
theorem dX10_ofModule_150 : decode cX10_ofModule 150 = .ok (.iconst 1, 1) := by decide +kernel
theorem dX10_ofModule_151 : decode cX10_ofModule 151 = .ok (.ireturn, 1) := by decide +kernel
theorem dX10_within_0 : decode cX10_within 0 = .ok (.aload_n 0, 1) := by decide +kernel
theorem dX10_within_1 : decode cX10_within 1 = .ok (.iload_n 1, 1) := by decide +kernel
theorem dX10_within_2 : decode cX10_within 2 = .ok (.invokevirtual 68, 3) := by decide +kernel
theorem dX10_within_5 : decode cX10_within 5 = .ok (.iload_n 2, 1) := by decide +kernel
theorem dX10_within_6 : decode cX10_within 6 = .ok (.iconst 0, 1) := by decide +kernel
theorem dX10_within_7 : decode cX10_within 7 = .ok (.bipush 15, 2) := by decide +kernel
theorem dX10_within_9 : decode cX10_within 9 = .ok (.invokestatic 72, 3) := by decide +kernel
theorem dX10_within_12 : decode cX10_within 12 = .ok (.iload_n 3, 1) := by decide +kernel
theorem dX10_within_13 : decode cX10_within 13 = .ok (.iconst 0, 1) := by decide +kernel
theorem dX10_within_14 : decode cX10_within 14 = .ok (.iconst 1, 1) := by decide +kernel
theorem dX10_within_15 : decode cX10_within 15 = .ok (.invokestatic 72, 3) := by decide +kernel
theorem dX10_within_18 : decode cX10_within 18 = .ok (.aload_n 0, 1) := by decide +kernel
theorem dX10_within_19 : decode cX10_within 19 = .ok (.getfield 21, 3) := by decide +kernel
theorem dX10_within_22 : decode cX10_within 22 = .ok (.getfield 142, 3) := by decide +kernel
theorem dX10_within_25 : decode cX10_within 25 = .ok (.iload_n 1, 1) := by decide +kernel
theorem dX10_within_26 : decode cX10_within 26 = .ok (.bipush 16, 2) := by decide +kernel
theorem dX10_within_28 : decode cX10_within 28 = .ok (.imul, 1) := by decide +kernel
theorem dX10_within_29 : decode cX10_within 29 = .ok (.iload_n 2, 1) := by decide +kernel
theorem dX10_within_30 : decode cX10_within 30 = .ok (.iadd, 1) := by decide +kernel
theorem dX10_within_31 : decode cX10_within 31 = .ok (.iaload, 1) := by decide +kernel
theorem dX10_within_32 : decode cX10_within 32 = .ok (.iload_n 3, 1) := by decide +kernel
theorem dX10_within_33 : decode cX10_within 33 = .ok (.invokestatic 145, 3) := by decide +kernel
theorem dX10_within_36 : decode cX10_within 36 = .ok (.ireturn, 1) := by decide +kernel
theorem dX10_outside_0 : decode cX10_outside 0 = .ok (.aload_n 0, 1) := by decide +kernel
theorem dX10_outside_1 : decode cX10_outside 1 = .ok (.iload_n 1, 1) := by decide +kernel
theorem dX10_outside_2 : decode cX10_outside 2 = .ok (.invokevirtual 68, 3) := by decide +kernel
theorem dX10_outside_5 : decode cX10_outside 5 = .ok (.iload_n 2, 1) := by decide +kernel
theorem dX10_outside_6 : decode cX10_outside 6 = .ok (.iconst 0, 1) := by decide +kernel
theorem dX10_outside_7 : decode cX10_outside 7 = .ok (.bipush 15, 2) := by decide +kernel
theorem dX10_outside_9 : decode cX10_outside 9 = .ok (.invokestatic 72, 3) := by decide +kernel
theorem dX10_outside_12 : decode cX10_outside 12 = .ok (.iload_n 3, 1) := by decide +kernel
theorem dX10_outside_13 : decode cX10_outside 13 = .ok (.iconst 0, 1) := by decide +kernel
theorem dX10_outside_14 : decode cX10_outside 14 = .ok (.iconst 5, 1) := by decide +kernel
theorem dX10_outside_15 : decode cX10_outside 15 = .ok (.invokestatic 72, 3) := by decide +kernel
theorem dX10_outside_18 : decode cX10_outside 18 = .ok (.aload_n 0, 1) := by decide +kernel
theorem dX10_outside_19 : decode cX10_outside 19 = .ok (.getfield 21, 3) := by decide +kernel
theorem dX10_outside_22 : decode cX10_outside 22 = .ok (.getfield 149, 3) := by decide +kernel
theorem dX10_outside_25 : decode cX10_outside 25 = .ok (.iload_n 1, 1) := by decide +kernel
theorem dX10_outside_26 : decode cX10_outside 26 = .ok (.bipush 16, 2) := by decide +kernel
theorem dX10_outside_28 : decode cX10_outside 28 = .ok (.imul, 1) := by decide +kernel
theorem dX10_outside_29 : decode cX10_outside 29 = .ok (.iload_n 2, 1) := by decide +kernel
theorem dX10_outside_30 : decode cX10_outside 30 = .ok (.iadd, 1) := by decide +kernel
theorem dX10_outside_31 : decode cX10_outside 31 = .ok (.iaload, 1) := by decide +kernel
theorem dX10_outside_32 : decode cX10_outside 32 = .ok (.istore 4, 2) := by decide +kernel
theorem dX10_outside_34 : decode cX10_outside 34 = .ok (.iload_n 3, 1) := by decide +kernel
theorem dX10_outside_35 : decode cX10_outside 35 = .ok (.iconst 1, 1) := by decide +kernel
theorem dX10_outside_36 : decode cX10_outside 36 = .ok (.if_icmp .gt 10, 3) := by decide +kernel
theorem dX10_outside_39 : decode cX10_outside 39 = .ok (.iload 4, 2) := by decide +kernel
theorem dX10_outside_41 : decode cX10_outside 41 = .ok (.iload_n 3, 1) := by decide +kernel
theorem dX10_outside_42 : decode cX10_outside 42 = .ok (.invokestatic 145, 3) := by decide +kernel
theorem dX10_outside_45 : decode cX10_outside 45 = .ok (.ireturn, 1) := by decide +kernel
theorem dX10_outside_46 : decode cX10_outside 46 = .ok (.iload 4, 2) := by decide +kernel
theorem dX10_outside_48 : decode cX10_outside 48 = .ok (.ifCond .ge 7, 3) := by decide +kernel
theorem dX10_outside_51 : decode cX10_outside 51 = .ok (.iconst 0, 1) := by decide +kernel
theorem dX10_outside_52 : decode cX10_outside 52 = .ok (.goto 22, 3) := by decide +kernel
theorem dX10_outside_55 : decode cX10_outside 55 = .ok (.aload_n 0, 1) := by decide +kernel
theorem dX10_outside_56 : decode cX10_outside 56 = .ok (.getfield 37, 3) := by decide +kernel
theorem dX10_outside_59 : decode cX10_outside 59 = .ok (.iload 4, 2) := by decide +kernel
theorem dX10_outside_61 : decode cX10_outside 61 = .ok (.invokevirtual 152, 3) := by decide +kernel
theorem dX10_outside_64 : decode cX10_outside 64 = .ok (.getfield 156, 3) := by decide +kernel
theorem dX10_outside_67 : decode cX10_outside 67 = .ok (.iload 4, 2) := by decide +kernel
theorem dX10_outside_69 : decode cX10_outside 69 = .ok (.laload, 1) := by decide +kernel
theorem dX10_outside_70 : decode cX10_outside 70 = .ok (.iload_n 3, 1) := by decide +kernel
theorem dX10_outside_71 : decode cX10_outside 71 = .ok (.invokestatic 162, 3) := by decide +kernel
theorem dX10_outside_74 : decode cX10_outside 74 = .ok (.ireturn, 1) := by decide +kernel
theorem dX10_build_0 : decode cX10_build 0 = .ok (.iload_n 1, 1) := by decide +kernel
theorem dX10_build_1 : decode cX10_build 1 = .ok (.iconst 1, 1) := by decide +kernel
theorem dX10_build_2 : decode cX10_build 2 = .ok (.bipush 8, 2) := by decide +kernel
theorem dX10_build_4 : decode cX10_build 4 = .ok (.invokestatic 72, 3) := by decide +kernel
theorem dX10_build_7 : decode cX10_build 7 = .ok (.aload_n 0, 1) := by decide +kernel
theorem dX10_build_8 : decode cX10_build 8 = .ok (.dup, 1) := by decide +kernel
theorem dX10_build_9 : decode cX10_build 9 = .ok (.getfield 168, 3) := by decide +kernel
theorem dX10_build_12 : decode cX10_build 12 = .ok (.iconst 1, 1) := by decide +kernel
theorem dX10_build_13 : decode cX10_build 13 = .ok (.iadd, 1) := by decide +kernel
theorem dX10_build_14 : decode cX10_build 14 = .ok (.putfield 168, 3) := by decide +kernel
theorem dX10_build_17 : decode cX10_build 17 = .ok (.iconst 0, 1) := by decide +kernel
theorem dX10_build_18 : decode cX10_build 18 = .ok (.istore_n 2, 1) := by decide +kernel
theorem dX10_build_19 : decode cX10_build 19 = .ok (.iconst 0, 1) := by decide +kernel
theorem dX10_build_20 : decode cX10_build 20 = .ok (.istore_n 3, 1) := by decide +kernel
theorem dX10_build_21 : decode cX10_build 21 = .ok (.iload_n 3, 1) := by decide +kernel
theorem dX10_build_22 : decode cX10_build 22 = .ok (.aload_n 0, 1) := by decide +kernel
theorem dX10_build_23 : decode cX10_build 23 = .ok (.getfield 28, 3) := by decide +kernel
theorem dX10_build_26 : decode cX10_build 26 = .ok (.getfield 171, 3) := by decide +kernel
theorem dX10_build_29 : decode cX10_build 29 = .ok (.if_icmp .ge 55, 3) := by decide +kernel
theorem dX10_build_32 : decode cX10_build 32 = .ok (.iload_n 2, 1) := by decide +kernel
theorem dX10_build_33 : decode cX10_build 33 = .ok (.iload_n 1, 1) := by decide +kernel
theorem dX10_build_34 : decode cX10_build 34 = .ok (.if_icmp .ge 50, 3) := by decide +kernel
theorem dX10_build_37 : decode cX10_build 37 = .ok (.aload_n 0, 1) := by decide +kernel
theorem dX10_build_38 : decode cX10_build 38 = .ok (.getfield 28, 3) := by decide +kernel
theorem dX10_build_41 : decode cX10_build 41 = .ok (.getfield 174, 3) := by decide +kernel
theorem dX10_build_44 : decode cX10_build 44 = .ok (.iload_n 3, 1) := by decide +kernel
theorem dX10_build_45 : decode cX10_build 45 = .ok (.iaload, 1) := by decide +kernel
theorem dX10_build_46 : decode cX10_build 46 = .ok (.istore 4, 2) := by decide +kernel
theorem dX10_build_48 : decode cX10_build 48 = .ok (.aload_n 0, 1) := by decide +kernel
theorem dX10_build_49 : decode cX10_build 49 = .ok (.getfield 37, 3) := by decide +kernel
theorem dX10_build_52 : decode cX10_build 52 = .ok (.iload 4, 2) := by decide +kernel
theorem dX10_build_54 : decode cX10_build 54 = .ok (.invokevirtual 139, 3) := by decide +kernel
theorem dX10_build_57 : decode cX10_build 57 = .ok (.ifCond .eq 21, 3) := by decide +kernel
theorem dX10_build_60 : decode cX10_build 60 = .ok (.aload_n 0, 1) := by decide +kernel
theorem dX10_build_61 : decode cX10_build 61 = .ok (.iload 4, 2) := by decide +kernel
theorem dX10_build_63 : decode cX10_build 63 = .ok (.aload_n 0, 1) := by decide +kernel
theorem dX10_build_64 : decode cX10_build 64 = .ok (.getfield 37, 3) := by decide +kernel
theorem dX10_build_67 : decode cX10_build 67 = .ok (.iload 4, 2) := by decide +kernel
theorem dX10_build_69 : decode cX10_build 69 = .ok (.invokevirtual 177, 3) := by decide +kernel
theorem dX10_build_72 : decode cX10_build 72 = .ok (.invokevirtual 180, 3) := by decide +kernel
theorem dX10_build_75 : decode cX10_build 75 = .ok (.iinc 2 1, 3) := by decide +kernel
theorem dX10_build_78 : decode cX10_build 78 = .ok (.iinc 3 1, 3) := by decide +kernel
theorem dX10_build_81 : decode cX10_build 81 = .ok (.goto (-60), 3) := by decide +kernel
theorem dX10_build_84 : decode cX10_build 84 = .ok (.iload_n 2, 1) := by decide +kernel
theorem dX10_build_85 : decode cX10_build 85 = .ok (.ireturn, 1) := by decide +kernel
theorem dX10_why_0 : decode cX10_why 0 = .ok (.aload_n 0, 1) := by decide +kernel
theorem dX10_why_1 : decode cX10_why 1 = .ok (.iload_n 1, 1) := by decide +kernel
theorem dX10_why_2 : decode cX10_why 2 = .ok (.invokevirtual 68, 3) := by decide +kernel
theorem dX10_why_5 : decode cX10_why 5 = .ok (.iload_n 2, 1) := by decide +kernel
theorem dX10_why_6 : decode cX10_why 6 = .ok (.iconst 0, 1) := by decide +kernel
theorem dX10_why_7 : decode cX10_why 7 = .ok (.iconst 3, 1) := by decide +kernel
theorem dX10_why_8 : decode cX10_why 8 = .ok (.invokestatic 72, 3) := by decide +kernel
theorem dX10_why_11 : decode cX10_why 11 = .ok (.aload_n 0, 1) := by decide +kernel
theorem dX10_why_12 : decode cX10_why 12 = .ok (.getfield 28, 3) := by decide +kernel
theorem dX10_why_15 : decode cX10_why 15 = .ok (.getfield 124, 3) := by decide +kernel
theorem dX10_why_18 : decode cX10_why 18 = .ok (.iload_n 1, 1) := by decide +kernel
theorem dX10_why_19 : decode cX10_why 19 = .ok (.iaload, 1) := by decide +kernel
theorem dX10_why_20 : decode cX10_why 20 = .ok (.istore_n 3, 1) := by decide +kernel
theorem dX10_why_21 : decode cX10_why 21 = .ok (.aload_n 0, 1) := by decide +kernel
theorem dX10_why_22 : decode cX10_why 22 = .ok (.getfield 37, 3) := by decide +kernel
theorem dX10_why_25 : decode cX10_why 25 = .ok (.iload_n 3, 1) := by decide +kernel
theorem dX10_why_26 : decode cX10_why 26 = .ok (.invokevirtual 139, 3) := by decide +kernel
theorem dX10_why_29 : decode cX10_why 29 = .ok (.istore 4, 2) := by decide +kernel
theorem dX10_why_31 : decode cX10_why 31 = .ok (.iload_n 2, 1) := by decide +kernel
theorem dX10_why_32 : decode cX10_why 32 = .ok (.lookupswitch 42 #[(0, 28), (1, 31)], 28) := by decide +kernel
theorem dX10_why_60 : decode cX10_why 60 = .ok (.iload 4, 2) := by decide +kernel
theorem dX10_why_62 : decode cX10_why 62 = .ok (.ireturn, 1) := by decide +kernel
theorem dX10_why_63 : decode cX10_why 63 = .ok (.aload_n 0, 1) := by decide +kernel
theorem dX10_why_64 : decode cX10_why 64 = .ok (.getfield 37, 3) := by decide +kernel
theorem dX10_why_67 : decode cX10_why 67 = .ok (.iload_n 3, 1) := by decide +kernel
theorem dX10_why_68 : decode cX10_why 68 = .ok (.iload 4, 2) := by decide +kernel
theorem dX10_why_70 : decode cX10_why 70 = .ok (.invokevirtual 184, 3) := by decide +kernel
theorem dX10_why_73 : decode cX10_why 73 = .ok (.ireturn, 1) := by decide +kernel
theorem dX10_why_74 : decode cX10_why 74 = .ok (.iload 4, 2) := by decide +kernel
theorem dX10_why_76 : decode cX10_why 76 = .ok (.iconst 4, 1) := by decide +kernel
theorem dX10_why_77 : decode cX10_why 77 = .ok (.if_icmp .ne 27, 3) := by decide +kernel
theorem dX10_why_80 : decode cX10_why 80 = .ok (.aload_n 0, 1) := by decide +kernel
theorem dX10_why_81 : decode cX10_why 81 = .ok (.getfield 37, 3) := by decide +kernel
theorem dX10_why_84 : decode cX10_why 84 = .ok (.aload_n 0, 1) := by decide +kernel
theorem dX10_why_85 : decode cX10_why 85 = .ok (.getfield 37, 3) := by decide +kernel
theorem dX10_why_88 : decode cX10_why 88 = .ok (.iload_n 3, 1) := by decide +kernel
theorem dX10_why_89 : decode cX10_why 89 = .ok (.invokevirtual 187, 3) := by decide +kernel
theorem dX10_why_92 : decode cX10_why 92 = .ok (.invokevirtual 190, 3) := by decide +kernel
theorem dX10_why_95 : decode cX10_why 95 = .ok (.iload_n 2, 1) := by decide +kernel
theorem dX10_why_96 : decode cX10_why 96 = .ok (.iconst 2, 1) := by decide +kernel
theorem dX10_why_97 : decode cX10_why 97 = .ok (.isub, 1) := by decide +kernel
theorem dX10_why_98 : decode cX10_why 98 = .ok (.invokestatic 145, 3) := by decide +kernel
theorem dX10_why_101 : decode cX10_why 101 = .ok (.goto 4, 3) := by decide +kernel
theorem dX10_why_104 : decode cX10_why 104 = .ok (.iconst (-1), 1) := by decide +kernel
theorem dX10_why_105 : decode cX10_why 105 = .ok (.ireturn, 1) := by decide +kernel
theorem dX10_built_0 : decode cX10_built 0 = .ok (.aload_n 0, 1) := by decide +kernel
theorem dX10_built_1 : decode cX10_built 1 = .ok (.iload_n 1, 1) := by decide +kernel
theorem dX10_built_2 : decode cX10_built 2 = .ok (.invokevirtual 68, 3) := by decide +kernel
theorem dX10_built_5 : decode cX10_built 5 = .ok (.iload_n 2, 1) := by decide +kernel
theorem dX10_built_6 : decode cX10_built 6 = .ok (.iconst 0, 1) := by decide +kernel
theorem dX10_built_7 : decode cX10_built 7 = .ok (.bipush 15, 2) := by decide +kernel
theorem dX10_built_9 : decode cX10_built 9 = .ok (.invokestatic 72, 3) := by decide +kernel
theorem dX10_built_12 : decode cX10_built 12 = .ok (.iload_n 3, 1) := by decide +kernel
theorem dX10_built_13 : decode cX10_built 13 = .ok (.iconst 0, 1) := by decide +kernel
theorem dX10_built_14 : decode cX10_built 14 = .ok (.iconst 5, 1) := by decide +kernel
theorem dX10_built_15 : decode cX10_built 15 = .ok (.invokestatic 72, 3) := by decide +kernel
theorem dX10_built_18 : decode cX10_built 18 = .ok (.iload_n 1, 1) := by decide +kernel
theorem dX10_built_19 : decode cX10_built 19 = .ok (.bipush 16, 2) := by decide +kernel
theorem dX10_built_21 : decode cX10_built 21 = .ok (.imul, 1) := by decide +kernel
theorem dX10_built_22 : decode cX10_built 22 = .ok (.iload_n 2, 1) := by decide +kernel
theorem dX10_built_23 : decode cX10_built 23 = .ok (.iadd, 1) := by decide +kernel
theorem dX10_built_24 : decode cX10_built 24 = .ok (.istore 4, 2) := by decide +kernel
theorem dX10_built_26 : decode cX10_built 26 = .ok (.aload_n 0, 1) := by decide +kernel
theorem dX10_built_27 : decode cX10_built 27 = .ok (.getfield 37, 3) := by decide +kernel
theorem dX10_built_30 : decode cX10_built 30 = .ok (.iload 4, 2) := by decide +kernel
theorem dX10_built_32 : decode cX10_built 32 = .ok (.invokevirtual 152, 3) := by decide +kernel
theorem dX10_built_35 : decode cX10_built 35 = .ok (.astore 5, 2) := by decide +kernel
theorem dX10_built_37 : decode cX10_built 37 = .ok (.aload 5, 2) := by decide +kernel
theorem dX10_built_39 : decode cX10_built 39 = .ok (.getfield 194, 3) := by decide +kernel
theorem dX10_built_42 : decode cX10_built 42 = .ok (.iload 4, 2) := by decide +kernel
theorem dX10_built_44 : decode cX10_built 44 = .ok (.invokevirtual 76, 3) := by decide +kernel
theorem dX10_built_47 : decode cX10_built 47 = .ok (.ifCond .ne 5, 3) := by decide +kernel
theorem dX10_built_50 : decode cX10_built 50 = .ok (.iconst (-1), 1) := by decide +kernel
theorem dX10_built_51 : decode cX10_built 51 = .ok (.ireturn, 1) := by decide +kernel
theorem dX10_built_52 : decode cX10_built 52 = .ok (.iload_n 3, 1) := by decide +kernel
theorem dX10_built_53 : decode cX10_built 53 = .ok (.tableswitch 70 0 3 #[31, 40, 53, 62], 31) := by decide +kernel
theorem dX10_built_84 : decode cX10_built 84 = .ok (.aload 5, 2) := by decide +kernel
theorem dX10_built_86 : decode cX10_built 86 = .ok (.getfield 195, 3) := by decide +kernel
theorem dX10_built_89 : decode cX10_built 89 = .ok (.iload 4, 2) := by decide +kernel
theorem dX10_built_91 : decode cX10_built 91 = .ok (.iaload, 1) := by decide +kernel
theorem dX10_built_92 : decode cX10_built 92 = .ok (.ireturn, 1) := by decide +kernel
theorem dX10_built_93 : decode cX10_built 93 = .ok (.aload 5, 2) := by decide +kernel
theorem dX10_built_95 : decode cX10_built 95 = .ok (.getfield 156, 3) := by decide +kernel
theorem dX10_built_98 : decode cX10_built 98 = .ok (.iload 4, 2) := by decide +kernel
theorem dX10_built_100 : decode cX10_built 100 = .ok (.laload, 1) := by decide +kernel
theorem dX10_built_101 : decode cX10_built 101 = .ok (.iconst 4, 1) := by decide +kernel
theorem dX10_built_102 : decode cX10_built 102 = .ok (.invokestatic 162, 3) := by decide +kernel
theorem dX10_built_105 : decode cX10_built 105 = .ok (.ireturn, 1) := by decide +kernel
theorem dX10_built_106 : decode cX10_built 106 = .ok (.aload 5, 2) := by decide +kernel
theorem dX10_built_108 : decode cX10_built 108 = .ok (.getfield 198, 3) := by decide +kernel
theorem dX10_built_111 : decode cX10_built 111 = .ok (.iload 4, 2) := by decide +kernel
theorem dX10_built_113 : decode cX10_built 113 = .ok (.iaload, 1) := by decide +kernel
theorem dX10_built_114 : decode cX10_built 114 = .ok (.ireturn, 1) := by decide +kernel
theorem dX10_built_115 : decode cX10_built 115 = .ok (.aload 5, 2) := by decide +kernel
theorem dX10_built_117 : decode cX10_built 117 = .ok (.iload 4, 2) := by decide +kernel
theorem dX10_built_119 : decode cX10_built 119 = .ok (.invokevirtual 201, 3) := by decide +kernel
theorem dX10_built_122 : decode cX10_built 122 = .ok (.ireturn, 1) := by decide +kernel
theorem dX10_built_123 : decode cX10_built 123 = .ok (.aload 5, 2) := by decide +kernel
theorem dX10_built_125 : decode cX10_built 125 = .ok (.getfield 204, 3) := by decide +kernel
theorem dX10_built_128 : decode cX10_built 128 = .ok (.iload 4, 2) := by decide +kernel
theorem dX10_built_130 : decode cX10_built 130 = .ok (.iaload, 1) := by decide +kernel
theorem dX10_built_131 : decode cX10_built 131 = .ok (.iload_n 3, 1) := by decide +kernel
theorem dX10_built_132 : decode cX10_built 132 = .ok (.iconst 4, 1) := by decide +kernel
theorem dX10_built_133 : decode cX10_built 133 = .ok (.isub, 1) := by decide +kernel
theorem dX10_built_134 : decode cX10_built 134 = .ok (.invokestatic 145, 3) := by decide +kernel
theorem dX10_built_137 : decode cX10_built 137 = .ok (.ireturn, 1) := by decide +kernel
theorem dX10_fault_0 : decode cX10_fault 0 = .ok (.aload_n 0, 1) := by decide +kernel
theorem dX10_fault_1 : decode cX10_fault 1 = .ok (.iload_n 1, 1) := by decide +kernel
theorem dX10_fault_2 : decode cX10_fault 2 = .ok (.invokevirtual 207, 3) := by decide +kernel
theorem dX10_fault_5 : decode cX10_fault 5 = .ok (.istore_n 3, 1) := by decide +kernel
theorem dX10_fault_6 : decode cX10_fault 6 = .ok (.iload_n 3, 1) := by decide +kernel
theorem dX10_fault_7 : decode cX10_fault 7 = .ok (.iconst (-1), 1) := by decide +kernel
theorem dX10_fault_8 : decode cX10_fault 8 = .ok (.if_icmp .ne 13, 3) := by decide +kernel
theorem dX10_fault_11 : decode cX10_fault 11 = .ok (.new 116, 3) := by decide +kernel
theorem dX10_fault_14 : decode cX10_fault 14 = .ok (.dup, 1) := by decide +kernel
theorem dX10_fault_15 : decode cX10_fault 15 = .ok (.ldc 210, 2) := by decide +kernel
theorem dX10_fault_17 : decode cX10_fault 17 = .ok (.invokespecial 120, 3) := by decide +kernel
theorem dX10_fault_20 : decode cX10_fault 20 = .ok (.athrow, 1) := by decide +kernel
theorem dX10_fault_21 : decode cX10_fault 21 = .ok (.iload_n 2, 1) := by decide +kernel
theorem dX10_fault_22 : decode cX10_fault 22 = .ok (.iconst 0, 1) := by decide +kernel
theorem dX10_fault_23 : decode cX10_fault 23 = .ok (.iconst 2, 1) := by decide +kernel
theorem dX10_fault_24 : decode cX10_fault 24 = .ok (.invokestatic 72, 3) := by decide +kernel
theorem dX10_fault_27 : decode cX10_fault 27 = .ok (.iload_n 2, 1) := by decide +kernel
theorem dX10_fault_28 : decode cX10_fault 28 = .ok (.ifCond .ne 19, 3) := by decide +kernel
theorem dX10_fault_31 : decode cX10_fault 31 = .ok (.aload_n 0, 1) := by decide +kernel
theorem dX10_fault_32 : decode cX10_fault 32 = .ok (.getfield 37, 3) := by decide +kernel
theorem dX10_fault_35 : decode cX10_fault 35 = .ok (.iload_n 3, 1) := by decide +kernel
theorem dX10_fault_36 : decode cX10_fault 36 = .ok (.invokevirtual 152, 3) := by decide +kernel
theorem dX10_fault_39 : decode cX10_fault 39 = .ok (.getfield 195, 3) := by decide +kernel
theorem dX10_fault_42 : decode cX10_fault 42 = .ok (.iload_n 3, 1) := by decide +kernel
theorem dX10_fault_43 : decode cX10_fault 43 = .ok (.iaload, 1) := by decide +kernel
theorem dX10_fault_44 : decode cX10_fault 44 = .ok (.goto 10, 3) := by decide +kernel
theorem dX10_fault_47 : decode cX10_fault 47 = .ok (.iload_n 3, 1) := by decide +kernel
theorem dX10_fault_48 : decode cX10_fault 48 = .ok (.iload_n 2, 1) := by decide +kernel
theorem dX10_fault_49 : decode cX10_fault 49 = .ok (.iconst 1, 1) := by decide +kernel
theorem dX10_fault_50 : decode cX10_fault 50 = .ok (.isub, 1) := by decide +kernel
theorem dX10_fault_51 : decode cX10_fault 51 = .ok (.invokestatic 145, 3) := by decide +kernel
theorem dX10_fault_54 : decode cX10_fault 54 = .ok (.ireturn, 1) := by decide +kernel
theorem dX10_run_0 : decode cX10_run 0 = .ok (.aload_n 0, 1) := by decide +kernel
theorem dX10_run_1 : decode cX10_run 1 = .ok (.iload_n 1, 1) := by decide +kernel
theorem dX10_run_2 : decode cX10_run 2 = .ok (.invokevirtual 68, 3) := by decide +kernel
theorem dX10_run_5 : decode cX10_run 5 = .ok (.iload_n 2, 1) := by decide +kernel
theorem dX10_run_6 : decode cX10_run 6 = .ok (.iconst 0, 1) := by decide +kernel
theorem dX10_run_7 : decode cX10_run 7 = .ok (.bipush 15, 2) := by decide +kernel
theorem dX10_run_9 : decode cX10_run 9 = .ok (.invokestatic 72, 3) := by decide +kernel
theorem dX10_run_12 : decode cX10_run 12 = .ok (.aload_n 0, 1) := by decide +kernel
theorem dX10_run_13 : decode cX10_run 13 = .ok (.iload_n 1, 1) := by decide +kernel
theorem dX10_run_14 : decode cX10_run 14 = .ok (.bipush 16, 2) := by decide +kernel
theorem dX10_run_16 : decode cX10_run 16 = .ok (.imul, 1) := by decide +kernel
theorem dX10_run_17 : decode cX10_run 17 = .ok (.iload_n 2, 1) := by decide +kernel
theorem dX10_run_18 : decode cX10_run 18 = .ok (.iadd, 1) := by decide +kernel
theorem dX10_run_19 : decode cX10_run 19 = .ok (.invokevirtual 212, 3) := by decide +kernel
theorem dX10_run_22 : decode cX10_run 22 = .ok (.ireturn, 1) := by decide +kernel
theorem dX10_many_0 : decode cX10_many 0 = .ok (.iload_n 1, 1) := by decide +kernel
theorem dX10_many_1 : decode cX10_many 1 = .ok (.iconst 0, 1) := by decide +kernel
theorem dX10_many_2 : decode cX10_many 2 = .ok (.bipush 9, 2) := by decide +kernel
theorem dX10_many_4 : decode cX10_many 4 = .ok (.invokestatic 72, 3) := by decide +kernel
theorem dX10_many_7 : decode cX10_many 7 = .ok (.iload_n 1, 1) := by decide +kernel
theorem dX10_many_8 : decode cX10_many 8 = .ok (.tableswitch 121 0 8 #[52, 60, 68, 76, 84, 92, 100, 111, 116], 52) := by decide +kernel
theorem dX10_many_60 : decode cX10_many 60 = .ok (.aload_n 0, 1) := by decide +kernel
theorem dX10_many_61 : decode cX10_many 61 = .ok (.getfield 12, 3) := by decide +kernel
theorem dX10_many_64 : decode cX10_many 64 = .ok (.getfield 54, 3) := by decide +kernel
theorem dX10_many_67 : decode cX10_many 67 = .ok (.ireturn, 1) := by decide +kernel
theorem dX10_many_68 : decode cX10_many 68 = .ok (.aload_n 0, 1) := by decide +kernel
theorem dX10_many_69 : decode cX10_many 69 = .ok (.getfield 12, 3) := by decide +kernel
theorem dX10_many_72 : decode cX10_many 72 = .ok (.invokevirtual 215, 3) := by decide +kernel
theorem dX10_many_75 : decode cX10_many 75 = .ok (.ireturn, 1) := by decide +kernel
theorem dX10_many_76 : decode cX10_many 76 = .ok (.aload_n 0, 1) := by decide +kernel
theorem dX10_many_77 : decode cX10_many 77 = .ok (.getfield 12, 3) := by decide +kernel
theorem dX10_many_80 : decode cX10_many 80 = .ok (.invokevirtual 219, 3) := by decide +kernel
theorem dX10_many_83 : decode cX10_many 83 = .ok (.ireturn, 1) := by decide +kernel
theorem dX10_many_84 : decode cX10_many 84 = .ok (.aload_n 0, 1) := by decide +kernel
theorem dX10_many_85 : decode cX10_many 85 = .ok (.getfield 28, 3) := by decide +kernel
theorem dX10_many_88 : decode cX10_many 88 = .ok (.getfield 171, 3) := by decide +kernel
theorem dX10_many_91 : decode cX10_many 91 = .ok (.ireturn, 1) := by decide +kernel
theorem dX10_many_92 : decode cX10_many 92 = .ok (.aload_n 0, 1) := by decide +kernel
theorem dX10_many_93 : decode cX10_many 93 = .ok (.getfield 37, 3) := by decide +kernel
theorem dX10_many_96 : decode cX10_many 96 = .ok (.invokevirtual 222, 3) := by decide +kernel
theorem dX10_many_99 : decode cX10_many 99 = .ok (.ireturn, 1) := by decide +kernel
theorem dX10_many_100 : decode cX10_many 100 = .ok (.aload_n 0, 1) := by decide +kernel
theorem dX10_many_101 : decode cX10_many 101 = .ok (.getfield 37, 3) := by decide +kernel
theorem dX10_many_104 : decode cX10_many 104 = .ok (.invokevirtual 225, 3) := by decide +kernel
theorem dX10_many_107 : decode cX10_many 107 = .ok (.ireturn, 1) := by decide +kernel
theorem dX10_many_108 : decode cX10_many 108 = .ok (.aload_n 0, 1) := by decide +kernel
theorem dX10_many_109 : decode cX10_many 109 = .ok (.getfield 37, 3) := by decide +kernel
theorem dX10_many_112 : decode cX10_many 112 = .ok (.getfield 228, 3) := by decide +kernel
theorem dX10_many_115 : decode cX10_many 115 = .ok (.getfield 232, 3) := by decide +kernel
theorem dX10_many_118 : decode cX10_many 118 = .ok (.ireturn, 1) := by decide +kernel
theorem dX10_many_119 : decode cX10_many 119 = .ok (.aload_n 0, 1) := by decide +kernel
theorem dX10_many_120 : decode cX10_many 120 = .ok (.getfield 235, 3) := by decide +kernel
theorem dX10_many_123 : decode cX10_many 123 = .ok (.ireturn, 1) := by decide +kernel
theorem dX10_many_124 : decode cX10_many 124 = .ok (.aload_n 0, 1) := by decide +kernel
theorem dX10_many_125 : decode cX10_many 125 = .ok (.getfield 238, 3) := by decide +kernel
theorem dX10_many_128 : decode cX10_many 128 = .ok (.ireturn, 1) := by decide +kernel
theorem dX10_many_129 : decode cX10_many 129 = .ok (.aload_n 0, 1) := by decide +kernel
theorem dX10_many_130 : decode cX10_many 130 = .ok (.getfield 168, 3) := by decide +kernel
theorem dX10_many_133 : decode cX10_many 133 = .ok (.ireturn, 1) := by decide +kernel
theorem dX10_wouldBuild_0 : decode cX10_wouldBuild 0 = .ok (.aload_n 0, 1) := by decide +kernel
theorem dX10_wouldBuild_1 : decode cX10_wouldBuild 1 = .ok (.getfield 41, 3) := by decide +kernel
theorem dX10_wouldBuild_4 : decode cX10_wouldBuild 4 = .ok (.aload_n 0, 1) := by decide +kernel
theorem dX10_wouldBuild_5 : decode cX10_wouldBuild 5 = .ok (.getfield 37, 3) := by decide +kernel
theorem dX10_wouldBuild_8 : decode cX10_wouldBuild 8 = .ok (.invokevirtual 241, 3) := by decide +kernel
theorem dX10_wouldBuild_11 : decode cX10_wouldBuild 11 = .ok (.aload_n 0, 1) := by decide +kernel
theorem dX10_wouldBuild_12 : decode cX10_wouldBuild 12 = .ok (.getfield 41, 3) := by decide +kernel
theorem dX10_wouldBuild_15 : decode cX10_wouldBuild 15 = .ok (.invokevirtual 245, 3) := by decide +kernel
theorem dX10_wouldBuild_18 : decode cX10_wouldBuild 18 = .ok (.ireturn, 1) := by decide +kernel
theorem dX10_builtBy_0 : decode cX10_builtBy 0 = .ok (.aload_n 0, 1) := by decide +kernel
theorem dX10_builtBy_1 : decode cX10_builtBy 1 = .ok (.iload_n 1, 1) := by decide +kernel
theorem dX10_builtBy_2 : decode cX10_builtBy 2 = .ok (.invokevirtual 68, 3) := by decide +kernel
theorem dX10_builtBy_5 : decode cX10_builtBy 5 = .ok (.iload_n 2, 1) := by decide +kernel
theorem dX10_builtBy_6 : decode cX10_builtBy 6 = .ok (.iconst 0, 1) := by decide +kernel
theorem dX10_builtBy_7 : decode cX10_builtBy 7 = .ok (.bipush 15, 2) := by decide +kernel
theorem dX10_builtBy_9 : decode cX10_builtBy 9 = .ok (.invokestatic 72, 3) := by decide +kernel
theorem dX10_builtBy_12 : decode cX10_builtBy 12 = .ok (.iload_n 3, 1) := by decide +kernel
theorem dX10_builtBy_13 : decode cX10_builtBy 13 = .ok (.bipush (-99), 2) := by decide +kernel
theorem dX10_builtBy_15 : decode cX10_builtBy 15 = .ok (.bipush 99, 2) := by decide +kernel
theorem dX10_builtBy_17 : decode cX10_builtBy 17 = .ok (.invokestatic 72, 3) := by decide +kernel
theorem dX10_builtBy_20 : decode cX10_builtBy 20 = .ok (.iload_n 1, 1) := by decide +kernel
theorem dX10_builtBy_21 : decode cX10_builtBy 21 = .ok (.bipush 16, 2) := by decide +kernel
theorem dX10_builtBy_23 : decode cX10_builtBy 23 = .ok (.imul, 1) := by decide +kernel
theorem dX10_builtBy_24 : decode cX10_builtBy 24 = .ok (.iload_n 2, 1) := by decide +kernel
theorem dX10_builtBy_25 : decode cX10_builtBy 25 = .ok (.iadd, 1) := by decide +kernel
theorem dX10_builtBy_26 : decode cX10_builtBy 26 = .ok (.istore 4, 2) := by decide +kernel
theorem dX10_builtBy_28 : decode cX10_builtBy 28 = .ok (.aload_n 0, 1) := by decide +kernel
theorem dX10_builtBy_29 : decode cX10_builtBy 29 = .ok (.getfield 12, 3) := by decide +kernel
theorem dX10_builtBy_32 : decode cX10_builtBy 32 = .ok (.iload 4, 2) := by decide +kernel
theorem dX10_builtBy_34 : decode cX10_builtBy 34 = .ok (.invokevirtual 76, 3) := by decide +kernel
theorem dX10_builtBy_37 : decode cX10_builtBy 37 = .ok (.ifCond .ne 5, 3) := by decide +kernel
theorem dX10_builtBy_40 : decode cX10_builtBy 40 = .ok (.iconst 0, 1) := by decide +kernel
theorem dX10_builtBy_41 : decode cX10_builtBy 41 = .ok (.ireturn, 1) := by decide +kernel
theorem dX10_builtBy_42 : decode cX10_builtBy 42 = .ok (.aload_n 0, 1) := by decide +kernel
theorem dX10_builtBy_43 : decode cX10_builtBy 43 = .ok (.getfield 41, 3) := by decide +kernel
theorem dX10_builtBy_46 : decode cX10_builtBy 46 = .ok (.aload_n 0, 1) := by decide +kernel
theorem dX10_builtBy_47 : decode cX10_builtBy 47 = .ok (.getfield 37, 3) := by decide +kernel
theorem dX10_builtBy_50 : decode cX10_builtBy 50 = .ok (.invokevirtual 241, 3) := by decide +kernel
theorem dX10_builtBy_53 : decode cX10_builtBy 53 = .ok (.aload_n 0, 1) := by decide +kernel
theorem dX10_builtBy_54 : decode cX10_builtBy 54 = .ok (.getfield 41, 3) := by decide +kernel
theorem dX10_builtBy_57 : decode cX10_builtBy 57 = .ok (.invokevirtual 245, 3) := by decide +kernel
theorem dX10_builtBy_60 : decode cX10_builtBy 60 = .ok (.pop, 1) := by decide +kernel
theorem dX10_builtBy_61 : decode cX10_builtBy 61 = .ok (.aload_n 0, 1) := by decide +kernel
theorem dX10_builtBy_62 : decode cX10_builtBy 62 = .ok (.getfield 41, 3) := by decide +kernel
theorem dX10_builtBy_65 : decode cX10_builtBy 65 = .ok (.getfield 248, 3) := by decide +kernel
theorem dX10_builtBy_68 : decode cX10_builtBy 68 = .ok (.getfield 86, 3) := by decide +kernel
theorem dX10_builtBy_71 : decode cX10_builtBy 71 = .ok (.iload 4, 2) := by decide +kernel
theorem dX10_builtBy_73 : decode cX10_builtBy 73 = .ok (.aload_n 0, 1) := by decide +kernel
theorem dX10_builtBy_74 : decode cX10_builtBy 74 = .ok (.getfield 12, 3) := by decide +kernel
theorem dX10_builtBy_77 : decode cX10_builtBy 77 = .ok (.getfield 86, 3) := by decide +kernel
theorem dX10_builtBy_80 : decode cX10_builtBy 80 = .ok (.iload 4, 2) := by decide +kernel
theorem dX10_builtBy_82 : decode cX10_builtBy 82 = .ok (.iaload, 1) := by decide +kernel
theorem dX10_builtBy_83 : decode cX10_builtBy 83 = .ok (.iload_n 3, 1) := by decide +kernel
theorem dX10_builtBy_84 : decode cX10_builtBy 84 = .ok (.invokestatic 249, 3) := by decide +kernel
theorem dX10_builtBy_87 : decode cX10_builtBy 87 = .ok (.iastore, 1) := by decide +kernel
theorem dX10_builtBy_88 : decode cX10_builtBy 88 = .ok (.aload_n 0, 1) := by decide +kernel
theorem dX10_builtBy_89 : decode cX10_builtBy 89 = .ok (.getfield 41, 3) := by decide +kernel
theorem dX10_builtBy_92 : decode cX10_builtBy 92 = .ok (.invokevirtual 245, 3) := by decide +kernel
theorem dX10_builtBy_95 : decode cX10_builtBy 95 = .ok (.ireturn, 1) := by decide +kernel
theorem dX10_rounds_0 : decode cX10_rounds 0 = .ok (.iload_n 1, 1) := by decide +kernel
theorem dX10_rounds_1 : decode cX10_rounds 1 = .ok (.iconst 1, 1) := by decide +kernel
theorem dX10_rounds_2 : decode cX10_rounds 2 = .ok (.iconst 4, 1) := by decide +kernel
theorem dX10_rounds_3 : decode cX10_rounds 3 = .ok (.invokestatic 72, 3) := by decide +kernel
theorem dX10_rounds_6 : decode cX10_rounds 6 = .ok (.aload_n 0, 1) := by decide +kernel
theorem dX10_rounds_7 : decode cX10_rounds 7 = .ok (.getfield 41, 3) := by decide +kernel
theorem dX10_rounds_10 : decode cX10_rounds 10 = .ok (.aload_n 0, 1) := by decide +kernel
theorem dX10_rounds_11 : decode cX10_rounds 11 = .ok (.getfield 37, 3) := by decide +kernel
theorem dX10_rounds_14 : decode cX10_rounds 14 = .ok (.invokevirtual 241, 3) := by decide +kernel
theorem dX10_rounds_17 : decode cX10_rounds 17 = .ok (.iconst 0, 1) := by decide +kernel
theorem dX10_rounds_18 : decode cX10_rounds 18 = .ok (.istore_n 2, 1) := by decide +kernel
theorem dX10_rounds_19 : decode cX10_rounds 19 = .ok (.iload_n 2, 1) := by decide +kernel
theorem dX10_rounds_20 : decode cX10_rounds 20 = .ok (.bipush 8, 2) := by decide +kernel
theorem dX10_rounds_22 : decode cX10_rounds 22 = .ok (.if_icmp .ge 20, 3) := by decide +kernel
theorem dX10_rounds_25 : decode cX10_rounds 25 = .ok (.aload_n 0, 1) := by decide +kernel
theorem dX10_rounds_26 : decode cX10_rounds 26 = .ok (.getfield 41, 3) := by decide +kernel
theorem dX10_rounds_29 : decode cX10_rounds 29 = .ok (.iload_n 1, 1) := by decide +kernel
theorem dX10_rounds_30 : decode cX10_rounds 30 = .ok (.invokevirtual 252, 3) := by decide +kernel
theorem dX10_rounds_33 : decode cX10_rounds 33 = .ok (.ifCond .le 9, 3) := by decide +kernel
theorem dX10_rounds_36 : decode cX10_rounds 36 = .ok (.iinc 2 1, 3) := by decide +kernel
theorem dX10_rounds_39 : decode cX10_rounds 39 = .ok (.goto (-20), 3) := by decide +kernel
theorem dX10_rounds_42 : decode cX10_rounds 42 = .ok (.iload_n 2, 1) := by decide +kernel
theorem dX10_rounds_43 : decode cX10_rounds 43 = .ok (.ireturn, 1) := by decide +kernel
theorem dX10_isAsNew_0 : decode cX10_isAsNew 0 = .ok (.aload_n 0, 1) := by decide +kernel
theorem dX10_isAsNew_1 : decode cX10_isAsNew 1 = .ok (.getfield 37, 3) := by decide +kernel
theorem dX10_isAsNew_4 : decode cX10_isAsNew 4 = .ok (.invokevirtual 222, 3) := by decide +kernel
theorem dX10_isAsNew_7 : decode cX10_isAsNew 7 = .ok (.ifCond .ne 7, 3) := by decide +kernel
theorem dX10_isAsNew_10 : decode cX10_isAsNew 10 = .ok (.iconst 1, 1) := by decide +kernel
theorem dX10_isAsNew_11 : decode cX10_isAsNew 11 = .ok (.goto 4, 3) := by decide +kernel
theorem dX10_isAsNew_14 : decode cX10_isAsNew 14 = .ok (.iconst 0, 1) := by decide +kernel
theorem dX10_isAsNew_15 : decode cX10_isAsNew 15 = .ok (.ireturn, 1) := by decide +kernel
theorem dX10_digest_0 : decode cX10_digest 0 = .ok (.ldc2_w 255, 3) := by decide +kernel
theorem dX10_digest_3 : decode cX10_digest 3 = .ok (.lstore_n 1, 1) := by decide +kernel
theorem dX10_digest_4 : decode cX10_digest 4 = .ok (.iconst 0, 1) := by decide +kernel
theorem dX10_digest_5 : decode cX10_digest 5 = .ok (.istore_n 3, 1) := by decide +kernel
theorem dX10_digest_6 : decode cX10_digest 6 = .ok (.iload_n 3, 1) := by decide +kernel
theorem dX10_digest_7 : decode cX10_digest 7 = .ok (.bipush 9, 2) := by decide +kernel
theorem dX10_digest_9 : decode cX10_digest 9 = .ok (.if_icmp .gt 22, 3) := by decide +kernel
theorem dX10_digest_12 : decode cX10_digest 12 = .ok (.lload_n 1, 1) := by decide +kernel
theorem dX10_digest_13 : decode cX10_digest 13 = .ok (.ldc2_w 257, 3) := by decide +kernel
theorem dX10_digest_16 : decode cX10_digest 16 = .ok (.lmul, 1) := by decide +kernel
theorem dX10_digest_17 : decode cX10_digest 17 = .ok (.aload_n 0, 1) := by decide +kernel
theorem dX10_digest_18 : decode cX10_digest 18 = .ok (.iload_n 3, 1) := by decide +kernel
theorem dX10_digest_19 : decode cX10_digest 19 = .ok (.invokevirtual 259, 3) := by decide +kernel
theorem dX10_digest_22 : decode cX10_digest 22 = .ok (.i2l, 1) := by decide +kernel
theorem dX10_digest_23 : decode cX10_digest 23 = .ok (.ladd, 1) := by decide +kernel
theorem dX10_digest_24 : decode cX10_digest 24 = .ok (.lstore_n 1, 1) := by decide +kernel
theorem dX10_digest_25 : decode cX10_digest 25 = .ok (.iinc 3 1, 3) := by decide +kernel
theorem dX10_digest_28 : decode cX10_digest 28 = .ok (.goto (-22), 3) := by decide +kernel
theorem dX10_digest_31 : decode cX10_digest 31 = .ok (.iconst 0, 1) := by decide +kernel
theorem dX10_digest_32 : decode cX10_digest 32 = .ok (.istore_n 3, 1) := by decide +kernel
theorem dX10_digest_33 : decode cX10_digest 33 = .ok (.iload_n 3, 1) := by decide +kernel
theorem dX10_digest_34 : decode cX10_digest 34 = .ok (.aload_n 0, 1) := by decide +kernel
theorem dX10_digest_35 : decode cX10_digest 35 = .ok (.getfield 12, 3) := by decide +kernel
theorem dX10_digest_38 : decode cX10_digest 38 = .ok (.getfield 54, 3) := by decide +kernel
theorem dX10_digest_41 : decode cX10_digest 41 = .ok (.if_icmp .ge 16, 3) := by decide +kernel
theorem dX10_digest_44 : decode cX10_digest 44 = .ok (.aload_n 0, 1) := by decide +kernel
theorem dX10_digest_45 : decode cX10_digest 45 = .ok (.lload_n 1, 1) := by decide +kernel
theorem dX10_digest_46 : decode cX10_digest 46 = .ok (.iload_n 3, 1) := by decide +kernel
theorem dX10_digest_47 : decode cX10_digest 47 = .ok (.invokevirtual 262, 3) := by decide +kernel
theorem dX10_digest_50 : decode cX10_digest 50 = .ok (.lstore_n 1, 1) := by decide +kernel
theorem dX10_digest_51 : decode cX10_digest 51 = .ok (.iinc 3 1, 3) := by decide +kernel
theorem dX10_digest_54 : decode cX10_digest 54 = .ok (.goto (-21), 3) := by decide +kernel
theorem dX10_digest_57 : decode cX10_digest 57 = .ok (.aload_n 0, 1) := by decide +kernel
theorem dX10_digest_58 : decode cX10_digest 58 = .ok (.getfield 37, 3) := by decide +kernel
theorem dX10_digest_61 : decode cX10_digest 61 = .ok (.invokevirtual 225, 3) := by decide +kernel
theorem dX10_digest_64 : decode cX10_digest 64 = .ok (.istore_n 3, 1) := by decide +kernel
theorem dX10_digest_65 : decode cX10_digest 65 = .ok (.iconst 0, 1) := by decide +kernel
theorem dX10_digest_66 : decode cX10_digest 66 = .ok (.istore 4, 2) := by decide +kernel
theorem dX10_digest_68 : decode cX10_digest 68 = .ok (.iload 4, 2) := by decide +kernel
theorem dX10_digest_70 : decode cX10_digest 70 = .ok (.iload_n 3, 1) := by decide +kernel
theorem dX10_digest_71 : decode cX10_digest 71 = .ok (.if_icmp .ge 40, 3) := by decide +kernel
theorem dX10_digest_74 : decode cX10_digest 74 = .ok (.iconst 0, 1) := by decide +kernel
theorem dX10_digest_75 : decode cX10_digest 75 = .ok (.istore 5, 2) := by decide +kernel
theorem dX10_digest_77 : decode cX10_digest 77 = .ok (.iload 5, 2) := by decide +kernel
theorem dX10_digest_79 : decode cX10_digest 79 = .ok (.iconst 2, 1) := by decide +kernel
theorem dX10_digest_80 : decode cX10_digest 80 = .ok (.if_icmp .gt 25, 3) := by decide +kernel
theorem dX10_digest_83 : decode cX10_digest 83 = .ok (.lload_n 1, 1) := by decide +kernel
theorem dX10_digest_84 : decode cX10_digest 84 = .ok (.ldc2_w 257, 3) := by decide +kernel
theorem dX10_digest_87 : decode cX10_digest 87 = .ok (.lmul, 1) := by decide +kernel
theorem dX10_digest_88 : decode cX10_digest 88 = .ok (.aload_n 0, 1) := by decide +kernel
theorem dX10_digest_89 : decode cX10_digest 89 = .ok (.iload 4, 2) := by decide +kernel
theorem dX10_digest_91 : decode cX10_digest 91 = .ok (.iload 5, 2) := by decide +kernel
theorem dX10_digest_93 : decode cX10_digest 93 = .ok (.invokevirtual 266, 3) := by decide +kernel
theorem dX10_digest_96 : decode cX10_digest 96 = .ok (.i2l, 1) := by decide +kernel
theorem dX10_digest_97 : decode cX10_digest 97 = .ok (.ladd, 1) := by decide +kernel
theorem dX10_digest_98 : decode cX10_digest 98 = .ok (.lstore_n 1, 1) := by decide +kernel
theorem dX10_digest_99 : decode cX10_digest 99 = .ok (.iinc 5 1, 3) := by decide +kernel
theorem dX10_digest_102 : decode cX10_digest 102 = .ok (.goto (-25), 3) := by decide +kernel
theorem dX10_digest_105 : decode cX10_digest 105 = .ok (.iinc 4 1, 3) := by decide +kernel
theorem dX10_digest_108 : decode cX10_digest 108 = .ok (.goto (-40), 3) := by decide +kernel
theorem dX10_digest_111 : decode cX10_digest 111 = .ok (.lload_n 1, 1) := by decide +kernel
theorem dX10_digest_112 : decode cX10_digest 112 = .ok (.ldc2_w 257, 3) := by decide +kernel
theorem dX10_digest_115 : decode cX10_digest 115 = .ok (.lmul, 1) := by decide +kernel
theorem dX10_digest_116 : decode cX10_digest 116 = .ok (.aload_n 0, 1) := by decide +kernel
theorem dX10_digest_117 : decode cX10_digest 117 = .ok (.invokevirtual 269, 3) := by decide +kernel
theorem dX10_digest_120 : decode cX10_digest 120 = .ok (.i2l, 1) := by decide +kernel
theorem dX10_digest_121 : decode cX10_digest 121 = .ok (.ladd, 1) := by decide +kernel
theorem dX10_digest_122 : decode cX10_digest 122 = .ok (.lstore_n 1, 1) := by decide +kernel
theorem dX10_digest_123 : decode cX10_digest 123 = .ok (.lload_n 1, 1) := by decide +kernel
theorem dX10_digest_124 : decode cX10_digest 124 = .ok (.ldc2_w 257, 3) := by decide +kernel
theorem dX10_digest_127 : decode cX10_digest 127 = .ok (.lmul, 1) := by decide +kernel
theorem dX10_digest_128 : decode cX10_digest 128 = .ok (.aload_n 0, 1) := by decide +kernel
theorem dX10_digest_129 : decode cX10_digest 129 = .ok (.iconst 1, 1) := by decide +kernel
theorem dX10_digest_130 : decode cX10_digest 130 = .ok (.invokevirtual 272, 3) := by decide +kernel
theorem dX10_digest_133 : decode cX10_digest 133 = .ok (.i2l, 1) := by decide +kernel
theorem dX10_digest_134 : decode cX10_digest 134 = .ok (.ladd, 1) := by decide +kernel
theorem dX10_digest_135 : decode cX10_digest 135 = .ok (.lstore_n 1, 1) := by decide +kernel
theorem dX10_digest_136 : decode cX10_digest 136 = .ok (.lload_n 1, 1) := by decide +kernel
theorem dX10_digest_137 : decode cX10_digest 137 = .ok (.ldc2_w 257, 3) := by decide +kernel
theorem dX10_digest_140 : decode cX10_digest 140 = .ok (.lmul, 1) := by decide +kernel
theorem dX10_digest_141 : decode cX10_digest 141 = .ok (.aload_n 0, 1) := by decide +kernel
theorem dX10_digest_142 : decode cX10_digest 142 = .ok (.iconst 2, 1) := by decide +kernel
theorem dX10_digest_143 : decode cX10_digest 143 = .ok (.invokevirtual 272, 3) := by decide +kernel
theorem dX10_digest_146 : decode cX10_digest 146 = .ok (.i2l, 1) := by decide +kernel
theorem dX10_digest_147 : decode cX10_digest 147 = .ok (.ladd, 1) := by decide +kernel
theorem dX10_digest_148 : decode cX10_digest 148 = .ok (.lstore_n 1, 1) := by decide +kernel
theorem dX10_digest_149 : decode cX10_digest 149 = .ok (.lload_n 1, 1) := by decide +kernel
theorem dX10_digest_150 : decode cX10_digest 150 = .ok (.ldc2_w 257, 3) := by decide +kernel
theorem dX10_digest_153 : decode cX10_digest 153 = .ok (.lmul, 1) := by decide +kernel
theorem dX10_digest_154 : decode cX10_digest 154 = .ok (.aload_n 0, 1) := by decide +kernel
theorem dX10_digest_155 : decode cX10_digest 155 = .ok (.invokevirtual 275, 3) := by decide +kernel
theorem dX10_digest_158 : decode cX10_digest 158 = .ok (.ifCond .eq 7, 3) := by decide +kernel
theorem dX10_digest_161 : decode cX10_digest 161 = .ok (.iconst 1, 1) := by decide +kernel
theorem dX10_digest_162 : decode cX10_digest 162 = .ok (.goto 4, 3) := by decide +kernel
theorem dX10_digest_165 : decode cX10_digest 165 = .ok (.iconst 0, 1) := by decide +kernel
theorem dX10_digest_166 : decode cX10_digest 166 = .ok (.i2l, 1) := by decide +kernel
theorem dX10_digest_167 : decode cX10_digest 167 = .ok (.ladd, 1) := by decide +kernel
theorem dX10_digest_168 : decode cX10_digest 168 = .ok (.lreturn, 1) := by decide +kernel
theorem dX10_digestOfModule_0 : decode cX10_digestOfModule 0 = .ok (.lload_n 1, 1) := by decide +kernel
theorem dX10_digestOfModule_1 : decode cX10_digestOfModule 1 = .ok (.lstore 4, 2) := by decide +kernel
theorem dX10_digestOfModule_3 : decode cX10_digestOfModule 3 = .ok (.iconst 0, 1) := by decide +kernel
theorem dX10_digestOfModule_4 : decode cX10_digestOfModule 4 = .ok (.istore 6, 2) := by decide +kernel
theorem dX10_digestOfModule_6 : decode cX10_digestOfModule 6 = .ok (.iload 6, 2) := by decide +kernel
theorem dX10_digestOfModule_8 : decode cX10_digestOfModule 8 = .ok (.bipush 8, 2) := by decide +kernel
theorem dX10_digestOfModule_10 : decode cX10_digestOfModule 10 = .ok (.if_icmp .gt 26, 3) := by decide +kernel
theorem dX10_digestOfModule_13 : decode cX10_digestOfModule 13 = .ok (.lload 4, 2) := by decide +kernel
theorem dX10_digestOfModule_15 : decode cX10_digestOfModule 15 = .ok (.ldc2_w 257, 3) := by decide +kernel
theorem dX10_digestOfModule_18 : decode cX10_digestOfModule 18 = .ok (.lmul, 1) := by decide +kernel
theorem dX10_digestOfModule_19 : decode cX10_digestOfModule 19 = .ok (.aload_n 0, 1) := by decide +kernel
theorem dX10_digestOfModule_20 : decode cX10_digestOfModule 20 = .ok (.iload_n 3, 1) := by decide +kernel
theorem dX10_digestOfModule_21 : decode cX10_digestOfModule 21 = .ok (.iload 6, 2) := by decide +kernel
theorem dX10_digestOfModule_23 : decode cX10_digestOfModule 23 = .ok (.invokevirtual 279, 3) := by decide +kernel
theorem dX10_digestOfModule_26 : decode cX10_digestOfModule 26 = .ok (.i2l, 1) := by decide +kernel
theorem dX10_digestOfModule_27 : decode cX10_digestOfModule 27 = .ok (.ladd, 1) := by decide +kernel
theorem dX10_digestOfModule_28 : decode cX10_digestOfModule 28 = .ok (.lstore 4, 2) := by decide +kernel
theorem dX10_digestOfModule_30 : decode cX10_digestOfModule 30 = .ok (.iinc 6 1, 3) := by decide +kernel
theorem dX10_digestOfModule_33 : decode cX10_digestOfModule 33 = .ok (.goto (-27), 3) := by decide +kernel
theorem dX10_digestOfModule_36 : decode cX10_digestOfModule 36 = .ok (.iconst 0, 1) := by decide +kernel
theorem dX10_digestOfModule_37 : decode cX10_digestOfModule 37 = .ok (.istore 6, 2) := by decide +kernel
theorem dX10_digestOfModule_39 : decode cX10_digestOfModule 39 = .ok (.iload 6, 2) := by decide +kernel
theorem dX10_digestOfModule_41 : decode cX10_digestOfModule 41 = .ok (.iconst 3, 1) := by decide +kernel
theorem dX10_digestOfModule_42 : decode cX10_digestOfModule 42 = .ok (.if_icmp .gt 26, 3) := by decide +kernel
