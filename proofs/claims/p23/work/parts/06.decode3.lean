theorem dX7_init_4 : decode cX7_init 4 = .ok (.aload_n 0, 1) := by decide +kernel
theorem dX7_init_5 : decode cX7_init 5 = .ok (.iload_n 1, 1) := by decide +kernel
theorem dX7_init_6 : decode cX7_init 6 = .ok (.anewarray 7, 3) := by decide +kernel
theorem dX7_init_9 : decode cX7_init 9 = .ok (.putfield 9, 3) := by decide +kernel
theorem dX7_init_12 : decode cX7_init 12 = .ok (.return_, 1) := by decide +kernel
theorem dX7_holds_0 : decode cX7_holds 0 = .ok (.iconst 0, 1) := by decide +kernel
theorem dX7_holds_1 : decode cX7_holds 1 = .ok (.istore_n 2, 1) := by decide +kernel
theorem dX7_holds_2 : decode cX7_holds 2 = .ok (.iload_n 2, 1) := by decide +kernel
theorem dX7_holds_3 : decode cX7_holds 3 = .ok (.aload_n 0, 1) := by decide +kernel
theorem dX7_holds_4 : decode cX7_holds 4 = .ok (.getfield 15, 3) := by decide +kernel
theorem dX7_holds_7 : decode cX7_holds 7 = .ok (.if_icmp .ge 21, 3) := by decide +kernel
theorem dX7_holds_10 : decode cX7_holds 10 = .ok (.aload_n 0, 1) := by decide +kernel
theorem dX7_holds_11 : decode cX7_holds 11 = .ok (.getfield 9, 3) := by decide +kernel
theorem dX7_holds_14 : decode cX7_holds 14 = .ok (.iload_n 2, 1) := by decide +kernel
theorem dX7_holds_15 : decode cX7_holds 15 = .ok (.aaload, 1) := by decide +kernel
theorem dX7_holds_16 : decode cX7_holds 16 = .ok (.aload_n 1, 1) := by decide +kernel
theorem dX7_holds_17 : decode cX7_holds 17 = .ok (.if_acmp .ne 5, 3) := by decide +kernel
theorem dX7_holds_20 : decode cX7_holds 20 = .ok (.iconst 1, 1) := by decide +kernel
theorem dX7_holds_21 : decode cX7_holds 21 = .ok (.ireturn, 1) := by decide +kernel
theorem dX7_holds_22 : decode cX7_holds 22 = .ok (.iinc 2 1, 3) := by decide +kernel
theorem dX7_holds_25 : decode cX7_holds 25 = .ok (.goto (-23), 3) := by decide +kernel
theorem dX7_holds_28 : decode cX7_holds 28 = .ok (.iconst 0, 1) := by decide +kernel
theorem dX7_holds_29 : decode cX7_holds 29 = .ok (.ireturn, 1) := by decide +kernel
theorem dX7_put_0 : decode cX7_put 0 = .ok (.aload_n 0, 1) := by decide +kernel
theorem dX7_put_1 : decode cX7_put 1 = .ok (.getfield 9, 3) := by decide +kernel
theorem dX7_put_4 : decode cX7_put 4 = .ok (.arraylength, 1) := by decide +kernel
theorem dX7_put_5 : decode cX7_put 5 = .ok (.ifCond .ne 4, 3) := by decide +kernel
theorem dX7_put_8 : decode cX7_put 8 = .ok (.return_, 1) := by decide +kernel
theorem dX7_put_9 : decode cX7_put 9 = .ok (.aload_n 0, 1) := by decide +kernel
theorem dX7_put_10 : decode cX7_put 10 = .ok (.getfield 15, 3) := by decide +kernel
theorem dX7_put_13 : decode cX7_put 13 = .ok (.aload_n 0, 1) := by decide +kernel
theorem dX7_put_14 : decode cX7_put 14 = .ok (.getfield 9, 3) := by decide +kernel
theorem dX7_put_17 : decode cX7_put 17 = .ok (.arraylength, 1) := by decide +kernel
theorem dX7_put_18 : decode cX7_put 18 = .ok (.if_icmp .ne 8, 3) := by decide +kernel
theorem dX7_put_21 : decode cX7_put 21 = .ok (.aload_n 0, 1) := by decide +kernel
theorem dX7_put_22 : decode cX7_put 22 = .ok (.iconst 0, 1) := by decide +kernel
theorem dX7_put_23 : decode cX7_put 23 = .ok (.invokevirtual 19, 3) := by decide +kernel
theorem dX7_put_26 : decode cX7_put 26 = .ok (.aload_n 0, 1) := by decide +kernel
theorem dX7_put_27 : decode cX7_put 27 = .ok (.getfield 9, 3) := by decide +kernel
theorem dX7_put_30 : decode cX7_put 30 = .ok (.aload_n 0, 1) := by decide +kernel
theorem dX7_put_31 : decode cX7_put 31 = .ok (.getfield 15, 3) := by decide +kernel
theorem dX7_put_34 : decode cX7_put 34 = .ok (.aload_n 1, 1) := by decide +kernel
theorem dX7_put_35 : decode cX7_put 35 = .ok (.aastore, 1) := by decide +kernel
theorem dX7_put_36 : decode cX7_put 36 = .ok (.aload_n 0, 1) := by decide +kernel
theorem dX7_put_37 : decode cX7_put 37 = .ok (.dup, 1) := by decide +kernel
theorem dX7_put_38 : decode cX7_put 38 = .ok (.getfield 15, 3) := by decide +kernel
theorem dX7_put_41 : decode cX7_put 41 = .ok (.iconst 1, 1) := by decide +kernel
theorem dX7_put_42 : decode cX7_put 42 = .ok (.iadd, 1) := by decide +kernel
theorem dX7_put_43 : decode cX7_put 43 = .ok (.putfield 15, 3) := by decide +kernel
theorem dX7_put_46 : decode cX7_put 46 = .ok (.return_, 1) := by decide +kernel
theorem dX7_makeNewest_0 : decode cX7_makeNewest 0 = .ok (.aload_n 0, 1) := by decide +kernel
theorem dX7_makeNewest_1 : decode cX7_makeNewest 1 = .ok (.getfield 9, 3) := by decide +kernel
theorem dX7_makeNewest_4 : decode cX7_makeNewest 4 = .ok (.iload_n 1, 1) := by decide +kernel
theorem dX7_makeNewest_5 : decode cX7_makeNewest 5 = .ok (.aaload, 1) := by decide +kernel
theorem dX7_makeNewest_6 : decode cX7_makeNewest 6 = .ok (.astore_n 2, 1) := by decide +kernel
theorem dX7_makeNewest_7 : decode cX7_makeNewest 7 = .ok (.aload_n 0, 1) := by decide +kernel
theorem dX7_makeNewest_8 : decode cX7_makeNewest 8 = .ok (.iload_n 1, 1) := by decide +kernel
theorem dX7_makeNewest_9 : decode cX7_makeNewest 9 = .ok (.invokevirtual 19, 3) := by decide +kernel
theorem dX7_makeNewest_12 : decode cX7_makeNewest 12 = .ok (.aload_n 0, 1) := by decide +kernel
theorem dX7_makeNewest_13 : decode cX7_makeNewest 13 = .ok (.aload_n 2, 1) := by decide +kernel
theorem dX7_makeNewest_14 : decode cX7_makeNewest 14 = .ok (.invokevirtual 23, 3) := by decide +kernel
theorem dX7_makeNewest_17 : decode cX7_makeNewest 17 = .ok (.return_, 1) := by decide +kernel
theorem dX7_takeOut_0 : decode cX7_takeOut 0 = .ok (.aload_n 0, 1) := by decide +kernel
theorem dX7_takeOut_1 : decode cX7_takeOut 1 = .ok (.dup, 1) := by decide +kernel
theorem dX7_takeOut_2 : decode cX7_takeOut 2 = .ok (.getfield 15, 3) := by decide +kernel
theorem dX7_takeOut_5 : decode cX7_takeOut 5 = .ok (.iconst 1, 1) := by decide +kernel
theorem dX7_takeOut_6 : decode cX7_takeOut 6 = .ok (.isub, 1) := by decide +kernel
theorem dX7_takeOut_7 : decode cX7_takeOut 7 = .ok (.putfield 15, 3) := by decide +kernel
theorem dX7_takeOut_10 : decode cX7_takeOut 10 = .ok (.iload_n 1, 1) := by decide +kernel
theorem dX7_takeOut_11 : decode cX7_takeOut 11 = .ok (.istore_n 2, 1) := by decide +kernel
theorem dX7_takeOut_12 : decode cX7_takeOut 12 = .ok (.iload_n 2, 1) := by decide +kernel
theorem dX7_takeOut_13 : decode cX7_takeOut 13 = .ok (.aload_n 0, 1) := by decide +kernel
theorem dX7_takeOut_14 : decode cX7_takeOut 14 = .ok (.getfield 15, 3) := by decide +kernel
theorem dX7_takeOut_17 : decode cX7_takeOut 17 = .ok (.if_icmp .ge 23, 3) := by decide +kernel
theorem dX7_takeOut_20 : decode cX7_takeOut 20 = .ok (.aload_n 0, 1) := by decide +kernel
theorem dX7_takeOut_21 : decode cX7_takeOut 21 = .ok (.getfield 9, 3) := by decide +kernel
theorem dX7_takeOut_24 : decode cX7_takeOut 24 = .ok (.iload_n 2, 1) := by decide +kernel
theorem dX7_takeOut_25 : decode cX7_takeOut 25 = .ok (.aload_n 0, 1) := by decide +kernel
theorem dX7_takeOut_26 : decode cX7_takeOut 26 = .ok (.getfield 9, 3) := by decide +kernel
theorem dX7_takeOut_29 : decode cX7_takeOut 29 = .ok (.iload_n 2, 1) := by decide +kernel
theorem dX7_takeOut_30 : decode cX7_takeOut 30 = .ok (.iconst 1, 1) := by decide +kernel
theorem dX7_takeOut_31 : decode cX7_takeOut 31 = .ok (.iadd, 1) := by decide +kernel
theorem dX7_takeOut_32 : decode cX7_takeOut 32 = .ok (.aaload, 1) := by decide +kernel
theorem dX7_takeOut_33 : decode cX7_takeOut 33 = .ok (.aastore, 1) := by decide +kernel
theorem dX7_takeOut_34 : decode cX7_takeOut 34 = .ok (.iinc 2 1, 3) := by decide +kernel
theorem dX7_takeOut_37 : decode cX7_takeOut 37 = .ok (.goto (-25), 3) := by decide +kernel
theorem dX7_takeOut_40 : decode cX7_takeOut 40 = .ok (.return_, 1) := by decide +kernel
theorem dX8_init_0 : decode cX8_init 0 = .ok (.aload_n 0, 1) := by decide +kernel
theorem dX8_init_1 : decode cX8_init 1 = .ok (.invokespecial 3, 3) := by decide +kernel
theorem dX8_init_4 : decode cX8_init 4 = .ok (.aload_n 0, 1) := by decide +kernel
theorem dX8_init_5 : decode cX8_init 5 = .ok (.sipush 128, 3) := by decide +kernel
theorem dX8_init_8 : decode cX8_init 8 = .ok (.newarray .int, 2) := by decide +kernel
theorem dX8_init_10 : decode cX8_init 10 = .ok (.putfield 9, 3) := by decide +kernel
theorem dX8_init_13 : decode cX8_init 13 = .ok (.aload_n 0, 1) := by decide +kernel
theorem dX8_init_14 : decode cX8_init 14 = .ok (.bipush 40, 2) := by decide +kernel
theorem dX8_init_16 : decode cX8_init 16 = .ok (.newarray .int, 2) := by decide +kernel
theorem dX8_init_18 : decode cX8_init 18 = .ok (.putfield 15, 3) := by decide +kernel
theorem dX8_init_21 : decode cX8_init 21 = .ok (.aload_n 0, 1) := by decide +kernel
theorem dX8_init_22 : decode cX8_init 22 = .ok (.bipush 8, 2) := by decide +kernel
theorem dX8_init_24 : decode cX8_init 24 = .ok (.newarray .int, 2) := by decide +kernel
theorem dX8_init_26 : decode cX8_init 26 = .ok (.putfield 18, 3) := by decide +kernel
theorem dX8_init_29 : decode cX8_init 29 = .ok (.return_, 1) := by decide +kernel
theorem dX8_isDeclared_0 : decode cX8_isDeclared 0 = .ok (.aload_n 0, 1) := by decide +kernel
theorem dX8_isDeclared_1 : decode cX8_isDeclared 1 = .ok (.getfield 9, 3) := by decide +kernel
theorem dX8_isDeclared_4 : decode cX8_isDeclared 4 = .ok (.iload_n 1, 1) := by decide +kernel
theorem dX8_isDeclared_5 : decode cX8_isDeclared 5 = .ok (.iaload, 1) := by decide +kernel
theorem dX8_isDeclared_6 : decode cX8_isDeclared 6 = .ok (.ifCond .eq 7, 3) := by decide +kernel
theorem dX8_isDeclared_9 : decode cX8_isDeclared 9 = .ok (.iconst 1, 1) := by decide +kernel
theorem dX8_isDeclared_10 : decode cX8_isDeclared 10 = .ok (.goto 4, 3) := by decide +kernel
theorem dX8_isDeclared_13 : decode cX8_isDeclared 13 = .ok (.iconst 0, 1) := by decide +kernel
theorem dX8_isDeclared_14 : decode cX8_isDeclared 14 = .ok (.ireturn, 1) := by decide +kernel
theorem dX8_declarationsOf_0 : decode cX8_declarationsOf 0 = .ok (.iconst 0, 1) := by decide +kernel
theorem dX8_declarationsOf_1 : decode cX8_declarationsOf 1 = .ok (.istore_n 2, 1) := by decide +kernel
theorem dX8_declarationsOf_2 : decode cX8_declarationsOf 2 = .ok (.iconst 0, 1) := by decide +kernel
theorem dX8_declarationsOf_3 : decode cX8_declarationsOf 3 = .ok (.istore_n 3, 1) := by decide +kernel
theorem dX8_declarationsOf_4 : decode cX8_declarationsOf 4 = .ok (.iload_n 3, 1) := by decide +kernel
theorem dX8_declarationsOf_5 : decode cX8_declarationsOf 5 = .ok (.bipush 16, 2) := by decide +kernel
theorem dX8_declarationsOf_7 : decode cX8_declarationsOf 7 = .ok (.if_icmp .ge 25, 3) := by decide +kernel
theorem dX8_declarationsOf_10 : decode cX8_declarationsOf 10 = .ok (.aload_n 0, 1) := by decide +kernel
theorem dX8_declarationsOf_11 : decode cX8_declarationsOf 11 = .ok (.iload_n 1, 1) := by decide +kernel
theorem dX8_declarationsOf_12 : decode cX8_declarationsOf 12 = .ok (.bipush 16, 2) := by decide +kernel
theorem dX8_declarationsOf_14 : decode cX8_declarationsOf 14 = .ok (.imul, 1) := by decide +kernel
theorem dX8_declarationsOf_15 : decode cX8_declarationsOf 15 = .ok (.iload_n 3, 1) := by decide +kernel
theorem dX8_declarationsOf_16 : decode cX8_declarationsOf 16 = .ok (.iadd, 1) := by decide +kernel
theorem dX8_declarationsOf_17 : decode cX8_declarationsOf 17 = .ok (.invokevirtual 21, 3) := by decide +kernel
theorem dX8_declarationsOf_20 : decode cX8_declarationsOf 20 = .ok (.ifCond .eq 6, 3) := by decide +kernel
theorem dX8_declarationsOf_23 : decode cX8_declarationsOf 23 = .ok (.iinc 2 1, 3) := by decide +kernel
theorem dX8_declarationsOf_26 : decode cX8_declarationsOf 26 = .ok (.iinc 3 1, 3) := by decide +kernel
theorem dX8_declarationsOf_29 : decode cX8_declarationsOf 29 = .ok (.goto (-25), 3) := by decide +kernel
theorem dX8_declarationsOf_32 : decode cX8_declarationsOf 32 = .ok (.iload_n 2, 1) := by decide +kernel
theorem dX8_declarationsOf_33 : decode cX8_declarationsOf 33 = .ok (.ireturn, 1) := by decide +kernel
theorem dX8_allDeclarations_0 : decode cX8_allDeclarations 0 = .ok (.iconst 0, 1) := by decide +kernel
theorem dX8_allDeclarations_1 : decode cX8_allDeclarations 1 = .ok (.istore_n 1, 1) := by decide +kernel
theorem dX8_allDeclarations_2 : decode cX8_allDeclarations 2 = .ok (.iconst 0, 1) := by decide +kernel
theorem dX8_allDeclarations_3 : decode cX8_allDeclarations 3 = .ok (.istore_n 2, 1) := by decide +kernel
theorem dX8_allDeclarations_4 : decode cX8_allDeclarations 4 = .ok (.iload_n 2, 1) := by decide +kernel
theorem dX8_allDeclarations_5 : decode cX8_allDeclarations 5 = .ok (.aload_n 0, 1) := by decide +kernel
theorem dX8_allDeclarations_6 : decode cX8_allDeclarations 6 = .ok (.getfield 25, 3) := by decide +kernel
theorem dX8_allDeclarations_9 : decode cX8_allDeclarations 9 = .ok (.if_icmp .ge 17, 3) := by decide +kernel
theorem dX8_allDeclarations_12 : decode cX8_allDeclarations 12 = .ok (.iload_n 1, 1) := by decide +kernel
theorem dX8_allDeclarations_13 : decode cX8_allDeclarations 13 = .ok (.aload_n 0, 1) := by decide +kernel
theorem dX8_allDeclarations_14 : decode cX8_allDeclarations 14 = .ok (.iload_n 2, 1) := by decide +kernel
theorem dX8_allDeclarations_15 : decode cX8_allDeclarations 15 = .ok (.invokevirtual 29, 3) := by decide +kernel
theorem dX8_allDeclarations_18 : decode cX8_allDeclarations 18 = .ok (.iadd, 1) := by decide +kernel
theorem dX8_allDeclarations_19 : decode cX8_allDeclarations 19 = .ok (.istore_n 1, 1) := by decide +kernel
theorem dX8_allDeclarations_20 : decode cX8_allDeclarations 20 = .ok (.iinc 2 1, 3) := by decide +kernel
theorem dX8_allDeclarations_23 : decode cX8_allDeclarations 23 = .ok (.goto (-19), 3) := by decide +kernel
theorem dX8_allDeclarations_26 : decode cX8_allDeclarations 26 = .ok (.iload_n 1, 1) := by decide +kernel
theorem dX8_allDeclarations_27 : decode cX8_allDeclarations 27 = .ok (.ireturn, 1) := by decide +kernel
theorem dX8_allImports_0 : decode cX8_allImports 0 = .ok (.iconst 0, 1) := by decide +kernel
theorem dX8_allImports_1 : decode cX8_allImports 1 = .ok (.istore_n 1, 1) := by decide +kernel
theorem dX8_allImports_2 : decode cX8_allImports 2 = .ok (.iconst 0, 1) := by decide +kernel
theorem dX8_allImports_3 : decode cX8_allImports 3 = .ok (.istore_n 2, 1) := by decide +kernel
theorem dX8_allImports_4 : decode cX8_allImports 4 = .ok (.iload_n 2, 1) := by decide +kernel
theorem dX8_allImports_5 : decode cX8_allImports 5 = .ok (.aload_n 0, 1) := by decide +kernel
theorem dX8_allImports_6 : decode cX8_allImports 6 = .ok (.getfield 25, 3) := by decide +kernel
theorem dX8_allImports_9 : decode cX8_allImports 9 = .ok (.if_icmp .ge 18, 3) := by decide +kernel
theorem dX8_allImports_12 : decode cX8_allImports 12 = .ok (.iload_n 1, 1) := by decide +kernel
theorem dX8_allImports_13 : decode cX8_allImports 13 = .ok (.aload_n 0, 1) := by decide +kernel
theorem dX8_allImports_14 : decode cX8_allImports 14 = .ok (.getfield 18, 3) := by decide +kernel
theorem dX8_allImports_17 : decode cX8_allImports 17 = .ok (.iload_n 2, 1) := by decide +kernel
theorem dX8_allImports_18 : decode cX8_allImports 18 = .ok (.iaload, 1) := by decide +kernel
theorem dX8_allImports_19 : decode cX8_allImports 19 = .ok (.iadd, 1) := by decide +kernel
theorem dX8_allImports_20 : decode cX8_allImports 20 = .ok (.istore_n 1, 1) := by decide +kernel
theorem dX8_allImports_21 : decode cX8_allImports 21 = .ok (.iinc 2 1, 3) := by decide +kernel
theorem dX8_allImports_24 : decode cX8_allImports 24 = .ok (.goto (-20), 3) := by decide +kernel
theorem dX8_allImports_27 : decode cX8_allImports 27 = .ok (.iload_n 1, 1) := by decide +kernel
theorem dX8_allImports_28 : decode cX8_allImports 28 = .ok (.ireturn, 1) := by decide +kernel
theorem dX8_importAt_0 : decode cX8_importAt 0 = .ok (.aload_n 0, 1) := by decide +kernel
theorem dX8_importAt_1 : decode cX8_importAt 1 = .ok (.getfield 15, 3) := by decide +kernel
theorem dX8_importAt_4 : decode cX8_importAt 4 = .ok (.iload_n 1, 1) := by decide +kernel
theorem dX8_importAt_5 : decode cX8_importAt 5 = .ok (.iconst 5, 1) := by decide +kernel
theorem dX8_importAt_6 : decode cX8_importAt 6 = .ok (.imul, 1) := by decide +kernel
theorem dX8_importAt_7 : decode cX8_importAt 7 = .ok (.iload_n 2, 1) := by decide +kernel
theorem dX8_importAt_8 : decode cX8_importAt 8 = .ok (.iadd, 1) := by decide +kernel
theorem dX8_importAt_9 : decode cX8_importAt 9 = .ok (.iaload, 1) := by decide +kernel
theorem dX8_importAt_10 : decode cX8_importAt 10 = .ok (.ireturn, 1) := by decide +kernel
theorem dX8_addImport_0 : decode cX8_addImport 0 = .ok (.aload_n 0, 1) := by decide +kernel
theorem dX8_addImport_1 : decode cX8_addImport 1 = .ok (.getfield 15, 3) := by decide +kernel
theorem dX8_addImport_4 : decode cX8_addImport 4 = .ok (.iload_n 1, 1) := by decide +kernel
theorem dX8_addImport_5 : decode cX8_addImport 5 = .ok (.iconst 5, 1) := by decide +kernel
theorem dX8_addImport_6 : decode cX8_addImport 6 = .ok (.imul, 1) := by decide +kernel
theorem dX8_addImport_7 : decode cX8_addImport 7 = .ok (.aload_n 0, 1) := by decide +kernel
theorem dX8_addImport_8 : decode cX8_addImport 8 = .ok (.getfield 18, 3) := by decide +kernel
theorem dX8_addImport_11 : decode cX8_addImport 11 = .ok (.iload_n 1, 1) := by decide +kernel
theorem dX8_addImport_12 : decode cX8_addImport 12 = .ok (.iaload, 1) := by decide +kernel
theorem dX8_addImport_13 : decode cX8_addImport 13 = .ok (.iadd, 1) := by decide +kernel
theorem dX8_addImport_14 : decode cX8_addImport 14 = .ok (.iload_n 2, 1) := by decide +kernel
theorem dX8_addImport_15 : decode cX8_addImport 15 = .ok (.iastore, 1) := by decide +kernel
theorem dX8_addImport_16 : decode cX8_addImport 16 = .ok (.aload_n 0, 1) := by decide +kernel
theorem dX8_addImport_17 : decode cX8_addImport 17 = .ok (.getfield 18, 3) := by decide +kernel
theorem dX8_addImport_20 : decode cX8_addImport 20 = .ok (.iload_n 1, 1) := by decide +kernel
theorem dX8_addImport_21 : decode cX8_addImport 21 = .ok (.dup2, 1) := by decide +kernel
theorem dX8_addImport_22 : decode cX8_addImport 22 = .ok (.iaload, 1) := by decide +kernel
theorem dX8_addImport_23 : decode cX8_addImport 23 = .ok (.iconst 1, 1) := by decide +kernel
theorem dX8_addImport_24 : decode cX8_addImport 24 = .ok (.iadd, 1) := by decide +kernel
theorem dX8_addImport_25 : decode cX8_addImport 25 = .ok (.iastore, 1) := by decide +kernel
theorem dX8_addImport_26 : decode cX8_addImport 26 = .ok (.return_, 1) := by decide +kernel
theorem dX8_removeImport_0 : decode cX8_removeImport 0 = .ok (.aload_n 0, 1) := by decide +kernel
theorem dX8_removeImport_1 : decode cX8_removeImport 1 = .ok (.getfield 18, 3) := by decide +kernel
theorem dX8_removeImport_4 : decode cX8_removeImport 4 = .ok (.iload_n 1, 1) := by decide +kernel
theorem dX8_removeImport_5 : decode cX8_removeImport 5 = .ok (.dup2, 1) := by decide +kernel
theorem dX8_removeImport_6 : decode cX8_removeImport 6 = .ok (.iaload, 1) := by decide +kernel
theorem dX8_removeImport_7 : decode cX8_removeImport 7 = .ok (.iconst 1, 1) := by decide +kernel
theorem dX8_removeImport_8 : decode cX8_removeImport 8 = .ok (.isub, 1) := by decide +kernel
theorem dX8_removeImport_9 : decode cX8_removeImport 9 = .ok (.iastore, 1) := by decide +kernel
theorem dX8_removeImport_10 : decode cX8_removeImport 10 = .ok (.iload_n 2, 1) := by decide +kernel
theorem dX8_removeImport_11 : decode cX8_removeImport 11 = .ok (.istore_n 3, 1) := by decide +kernel
theorem dX8_removeImport_12 : decode cX8_removeImport 12 = .ok (.iload_n 3, 1) := by decide +kernel
theorem dX8_removeImport_13 : decode cX8_removeImport 13 = .ok (.aload_n 0, 1) := by decide +kernel
theorem dX8_removeImport_14 : decode cX8_removeImport 14 = .ok (.getfield 18, 3) := by decide +kernel
theorem dX8_removeImport_17 : decode cX8_removeImport 17 = .ok (.iload_n 1, 1) := by decide +kernel
theorem dX8_removeImport_18 : decode cX8_removeImport 18 = .ok (.iaload, 1) := by decide +kernel
theorem dX8_removeImport_19 : decode cX8_removeImport 19 = .ok (.if_icmp .ge 31, 3) := by decide +kernel
theorem dX8_removeImport_22 : decode cX8_removeImport 22 = .ok (.aload_n 0, 1) := by decide +kernel
theorem dX8_removeImport_23 : decode cX8_removeImport 23 = .ok (.getfield 15, 3) := by decide +kernel
theorem dX8_removeImport_26 : decode cX8_removeImport 26 = .ok (.iload_n 1, 1) := by decide +kernel
theorem dX8_removeImport_27 : decode cX8_removeImport 27 = .ok (.iconst 5, 1) := by decide +kernel
theorem dX8_removeImport_28 : decode cX8_removeImport 28 = .ok (.imul, 1) := by decide +kernel
theorem dX8_removeImport_29 : decode cX8_removeImport 29 = .ok (.iload_n 3, 1) := by decide +kernel
theorem dX8_removeImport_30 : decode cX8_removeImport 30 = .ok (.iadd, 1) := by decide +kernel
theorem dX8_removeImport_31 : decode cX8_removeImport 31 = .ok (.aload_n 0, 1) := by decide +kernel
theorem dX8_removeImport_32 : decode cX8_removeImport 32 = .ok (.getfield 15, 3) := by decide +kernel
theorem dX8_removeImport_35 : decode cX8_removeImport 35 = .ok (.iload_n 1, 1) := by decide +kernel
theorem dX8_removeImport_36 : decode cX8_removeImport 36 = .ok (.iconst 5, 1) := by decide +kernel
theorem dX8_removeImport_37 : decode cX8_removeImport 37 = .ok (.imul, 1) := by decide +kernel
theorem dX8_removeImport_38 : decode cX8_removeImport 38 = .ok (.iload_n 3, 1) := by decide +kernel
theorem dX8_removeImport_39 : decode cX8_removeImport 39 = .ok (.iadd, 1) := by decide +kernel
theorem dX8_removeImport_40 : decode cX8_removeImport 40 = .ok (.iconst 1, 1) := by decide +kernel
theorem dX8_removeImport_41 : decode cX8_removeImport 41 = .ok (.iadd, 1) := by decide +kernel
theorem dX8_removeImport_42 : decode cX8_removeImport 42 = .ok (.iaload, 1) := by decide +kernel
theorem dX8_removeImport_43 : decode cX8_removeImport 43 = .ok (.iastore, 1) := by decide +kernel
theorem dX8_removeImport_44 : decode cX8_removeImport 44 = .ok (.iinc 3 1, 3) := by decide +kernel
theorem dX8_removeImport_47 : decode cX8_removeImport 47 = .ok (.goto (-35), 3) := by decide +kernel
theorem dX8_removeImport_50 : decode cX8_removeImport 50 = .ok (.return_, 1) := by decide +kernel
theorem dX8_isSame_0 : decode cX8_isSame 0 = .ok (.aload_n 0, 1) := by decide +kernel
theorem dX8_isSame_1 : decode cX8_isSame 1 = .ok (.getfield 18, 3) := by decide +kernel
theorem dX8_isSame_4 : decode cX8_isSame 4 = .ok (.iload_n 2, 1) := by decide +kernel
theorem dX8_isSame_5 : decode cX8_isSame 5 = .ok (.iaload, 1) := by decide +kernel
theorem dX8_isSame_6 : decode cX8_isSame 6 = .ok (.aload_n 1, 1) := by decide +kernel
theorem dX8_isSame_7 : decode cX8_isSame 7 = .ok (.getfield 18, 3) := by decide +kernel
theorem dX8_isSame_10 : decode cX8_isSame 10 = .ok (.iload_n 2, 1) := by decide +kernel
theorem dX8_isSame_11 : decode cX8_isSame 11 = .ok (.iaload, 1) := by decide +kernel
theorem dX8_isSame_12 : decode cX8_isSame 12 = .ok (.if_icmp .eq 5, 3) := by decide +kernel
theorem dX8_isSame_15 : decode cX8_isSame 15 = .ok (.iconst 0, 1) := by decide +kernel
theorem dX8_isSame_16 : decode cX8_isSame 16 = .ok (.ireturn, 1) := by decide +kernel
theorem dX8_isSame_17 : decode cX8_isSame 17 = .ok (.iconst 0, 1) := by decide +kernel
theorem dX8_isSame_18 : decode cX8_isSame 18 = .ok (.istore_n 3, 1) := by decide +kernel
theorem dX8_isSame_19 : decode cX8_isSame 19 = .ok (.iload_n 3, 1) := by decide +kernel
theorem dX8_isSame_20 : decode cX8_isSame 20 = .ok (.aload_n 0, 1) := by decide +kernel
theorem dX8_isSame_21 : decode cX8_isSame 21 = .ok (.getfield 18, 3) := by decide +kernel
theorem dX8_isSame_24 : decode cX8_isSame 24 = .ok (.iload_n 2, 1) := by decide +kernel
theorem dX8_isSame_25 : decode cX8_isSame 25 = .ok (.iaload, 1) := by decide +kernel
theorem dX8_isSame_26 : decode cX8_isSame 26 = .ok (.if_icmp .ge 26, 3) := by decide +kernel
theorem dX8_isSame_29 : decode cX8_isSame 29 = .ok (.aload_n 0, 1) := by decide +kernel
theorem dX8_isSame_30 : decode cX8_isSame 30 = .ok (.iload_n 2, 1) := by decide +kernel
theorem dX8_isSame_31 : decode cX8_isSame 31 = .ok (.iload_n 3, 1) := by decide +kernel
theorem dX8_isSame_32 : decode cX8_isSame 32 = .ok (.invokevirtual 33, 3) := by decide +kernel
theorem dX8_isSame_35 : decode cX8_isSame 35 = .ok (.aload_n 1, 1) := by decide +kernel
theorem dX8_isSame_36 : decode cX8_isSame 36 = .ok (.iload_n 2, 1) := by decide +kernel
theorem dX8_isSame_37 : decode cX8_isSame 37 = .ok (.iload_n 3, 1) := by decide +kernel
theorem dX8_isSame_38 : decode cX8_isSame 38 = .ok (.invokevirtual 33, 3) := by decide +kernel
theorem dX8_isSame_41 : decode cX8_isSame 41 = .ok (.if_icmp .eq 5, 3) := by decide +kernel
theorem dX8_isSame_44 : decode cX8_isSame 44 = .ok (.iconst 0, 1) := by decide +kernel
theorem dX8_isSame_45 : decode cX8_isSame 45 = .ok (.ireturn, 1) := by decide +kernel
theorem dX8_isSame_46 : decode cX8_isSame 46 = .ok (.iinc 3 1, 3) := by decide +kernel
theorem dX8_isSame_49 : decode cX8_isSame 49 = .ok (.goto (-30), 3) := by decide +kernel
theorem dX8_isSame_52 : decode cX8_isSame 52 = .ok (.iload_n 2, 1) := by decide +kernel
theorem dX8_isSame_53 : decode cX8_isSame 53 = .ok (.bipush 16, 2) := by decide +kernel
theorem dX8_isSame_55 : decode cX8_isSame 55 = .ok (.imul, 1) := by decide +kernel
theorem dX8_isSame_56 : decode cX8_isSame 56 = .ok (.istore_n 3, 1) := by decide +kernel
theorem dX8_isSame_57 : decode cX8_isSame 57 = .ok (.iload_n 3, 1) := by decide +kernel
theorem dX8_isSame_58 : decode cX8_isSame 58 = .ok (.iload_n 2, 1) := by decide +kernel
theorem dX8_isSame_59 : decode cX8_isSame 59 = .ok (.bipush 16, 2) := by decide +kernel
theorem dX8_isSame_61 : decode cX8_isSame 61 = .ok (.imul, 1) := by decide +kernel
theorem dX8_isSame_62 : decode cX8_isSame 62 = .ok (.bipush 16, 2) := by decide +kernel
theorem dX8_isSame_64 : decode cX8_isSame 64 = .ok (.iadd, 1) := by decide +kernel
theorem dX8_isSame_65 : decode cX8_isSame 65 = .ok (.if_icmp .ge 26, 3) := by decide +kernel
theorem dX8_isSame_68 : decode cX8_isSame 68 = .ok (.aload_n 0, 1) := by decide +kernel
theorem dX8_isSame_69 : decode cX8_isSame 69 = .ok (.getfield 9, 3) := by decide +kernel
theorem dX8_isSame_72 : decode cX8_isSame 72 = .ok (.iload_n 3, 1) := by decide +kernel
theorem dX8_isSame_73 : decode cX8_isSame 73 = .ok (.iaload, 1) := by decide +kernel
theorem dX8_isSame_74 : decode cX8_isSame 74 = .ok (.aload_n 1, 1) := by decide +kernel
theorem dX8_isSame_75 : decode cX8_isSame 75 = .ok (.getfield 9, 3) := by decide +kernel
theorem dX8_isSame_78 : decode cX8_isSame 78 = .ok (.iload_n 3, 1) := by decide +kernel
theorem dX8_isSame_79 : decode cX8_isSame 79 = .ok (.iaload, 1) := by decide +kernel
theorem dX8_isSame_80 : decode cX8_isSame 80 = .ok (.if_icmp .eq 5, 3) := by decide +kernel
theorem dX8_isSame_83 : decode cX8_isSame 83 = .ok (.iconst 0, 1) := by decide +kernel
theorem dX8_isSame_84 : decode cX8_isSame 84 = .ok (.ireturn, 1) := by decide +kernel
theorem dX8_isSame_85 : decode cX8_isSame 85 = .ok (.iinc 3 1, 3) := by decide +kernel
theorem dX8_isSame_88 : decode cX8_isSame 88 = .ok (.goto (-31), 3) := by decide +kernel
theorem dX8_isSame_91 : decode cX8_isSame 91 = .ok (.iconst 1, 1) := by decide +kernel
theorem dX8_isSame_92 : decode cX8_isSame 92 = .ok (.ireturn, 1) := by decide +kernel
theorem dX8_copy_0 : decode cX8_copy 0 = .ok (.aload_n 1, 1) := by decide +kernel
theorem dX8_copy_1 : decode cX8_copy 1 = .ok (.getfield 9, 3) := by decide +kernel
theorem dX8_copy_4 : decode cX8_copy 4 = .ok (.iconst 0, 1) := by decide +kernel
theorem dX8_copy_5 : decode cX8_copy 5 = .ok (.aload_n 0, 1) := by decide +kernel
theorem dX8_copy_6 : decode cX8_copy 6 = .ok (.getfield 9, 3) := by decide +kernel
theorem dX8_copy_9 : decode cX8_copy 9 = .ok (.iconst 0, 1) := by decide +kernel
theorem dX8_copy_10 : decode cX8_copy 10 = .ok (.sipush 128, 3) := by decide +kernel
theorem dX8_copy_13 : decode cX8_copy 13 = .ok (.invokestatic 37, 3) := by decide +kernel
theorem dX8_copy_16 : decode cX8_copy 16 = .ok (.aload_n 1, 1) := by decide +kernel
theorem dX8_copy_17 : decode cX8_copy 17 = .ok (.getfield 15, 3) := by decide +kernel
theorem dX8_copy_20 : decode cX8_copy 20 = .ok (.iconst 0, 1) := by decide +kernel
theorem dX8_copy_21 : decode cX8_copy 21 = .ok (.aload_n 0, 1) := by decide +kernel
theorem dX8_copy_22 : decode cX8_copy 22 = .ok (.getfield 15, 3) := by decide +kernel
theorem dX8_copy_25 : decode cX8_copy 25 = .ok (.iconst 0, 1) := by decide +kernel
theorem dX8_copy_26 : decode cX8_copy 26 = .ok (.bipush 40, 2) := by decide +kernel
theorem dX8_copy_28 : decode cX8_copy 28 = .ok (.invokestatic 37, 3) := by decide +kernel
theorem dX8_copy_31 : decode cX8_copy 31 = .ok (.aload_n 1, 1) := by decide +kernel
theorem dX8_copy_32 : decode cX8_copy 32 = .ok (.getfield 18, 3) := by decide +kernel
theorem dX8_copy_35 : decode cX8_copy 35 = .ok (.iconst 0, 1) := by decide +kernel
theorem dX8_copy_36 : decode cX8_copy 36 = .ok (.aload_n 0, 1) := by decide +kernel
theorem dX8_copy_37 : decode cX8_copy 37 = .ok (.getfield 18, 3) := by decide +kernel
theorem dX8_copy_40 : decode cX8_copy 40 = .ok (.iconst 0, 1) := by decide +kernel
theorem dX8_copy_41 : decode cX8_copy 41 = .ok (.bipush 8, 2) := by decide +kernel
theorem dX8_copy_43 : decode cX8_copy 43 = .ok (.invokestatic 37, 3) := by decide +kernel
theorem dX8_copy_46 : decode cX8_copy 46 = .ok (.aload_n 0, 1) := by decide +kernel
theorem dX8_copy_47 : decode cX8_copy 47 = .ok (.aload_n 1, 1) := by decide +kernel
theorem dX8_copy_48 : decode cX8_copy 48 = .ok (.getfield 25, 3) := by decide +kernel
theorem dX8_copy_51 : decode cX8_copy 51 = .ok (.putfield 25, 3) := by decide +kernel
theorem dX8_copy_54 : decode cX8_copy 54 = .ok (.return_, 1) := by decide +kernel
theorem dX9_init_0 : decode cX9_init 0 = .ok (.aload_n 0, 1) := by decide +kernel
theorem dX9_init_1 : decode cX9_init 1 = .ok (.invokespecial 3, 3) := by decide +kernel
theorem dX9_init_4 : decode cX9_init 4 = .ok (.aload_n 0, 1) := by decide +kernel
theorem dX9_init_5 : decode cX9_init 5 = .ok (.bipush 8, 2) := by decide +kernel
theorem dX9_init_7 : decode cX9_init 7 = .ok (.anewarray 9, 3) := by decide +kernel
theorem dX9_init_10 : decode cX9_init 10 = .ok (.putfield 11, 3) := by decide +kernel
theorem dX9_init_13 : decode cX9_init 13 = .ok (.aload_n 0, 1) := by decide +kernel
theorem dX9_init_14 : decode cX9_init 14 = .ok (.aload_n 1, 1) := by decide +kernel
theorem dX9_init_15 : decode cX9_init 15 = .ok (.putfield 17, 3) := by decide +kernel
theorem dX9_init_18 : decode cX9_init 18 = .ok (.aload_n 0, 1) := by decide +kernel
theorem dX9_init_19 : decode cX9_init 19 = .ok (.aload_n 2, 1) := by decide +kernel
theorem dX9_init_20 : decode cX9_init 20 = .ok (.putfield 21, 3) := by decide +kernel
theorem dX9_init_23 : decode cX9_init 23 = .ok (.aload_n 0, 1) := by decide +kernel
theorem dX9_init_24 : decode cX9_init 24 = .ok (.aload_n 3, 1) := by decide +kernel
theorem dX9_init_25 : decode cX9_init 25 = .ok (.putfield 25, 3) := by decide +kernel
theorem dX9_init_28 : decode cX9_init 28 = .ok (.aload_n 0, 1) := by decide +kernel
theorem dX9_init_29 : decode cX9_init 29 = .ok (.new 29, 3) := by decide +kernel
theorem dX9_init_32 : decode cX9_init 32 = .ok (.dup, 1) := by decide +kernel
theorem dX9_init_33 : decode cX9_init 33 = .ok (.iload 4, 2) := by decide +kernel
theorem dX9_init_35 : decode cX9_init 35 = .ok (.invokespecial 31, 3) := by decide +kernel
theorem dX9_init_38 : decode cX9_init 38 = .ok (.putfield 34, 3) := by decide +kernel
theorem dX9_init_41 : decode cX9_init 41 = .ok (.aload_n 0, 1) := by decide +kernel
theorem dX9_init_42 : decode cX9_init 42 = .ok (.new 9, 3) := by decide +kernel
theorem dX9_init_45 : decode cX9_init 45 = .ok (.dup, 1) := by decide +kernel
theorem dX9_init_46 : decode cX9_init 46 = .ok (.invokespecial 38, 3) := by decide +kernel
theorem dX9_init_49 : decode cX9_init 49 = .ok (.putfield 39, 3) := by decide +kernel
theorem dX9_init_52 : decode cX9_init 52 = .ok (.iconst 0, 1) := by decide +kernel
theorem dX9_init_53 : decode cX9_init 53 = .ok (.istore 5, 2) := by decide +kernel
theorem dX9_init_55 : decode cX9_init 55 = .ok (.iload 5, 2) := by decide +kernel
theorem dX9_init_57 : decode cX9_init 57 = .ok (.bipush 8, 2) := by decide +kernel
theorem dX9_init_59 : decode cX9_init 59 = .ok (.if_icmp .ge 20, 3) := by decide +kernel
theorem dX9_init_62 : decode cX9_init 62 = .ok (.aload_n 0, 1) := by decide +kernel
theorem dX9_init_63 : decode cX9_init 63 = .ok (.getfield 11, 3) := by decide +kernel
theorem dX9_init_66 : decode cX9_init 66 = .ok (.iload 5, 2) := by decide +kernel
theorem dX9_init_68 : decode cX9_init 68 = .ok (.aload_n 0, 1) := by decide +kernel
theorem dX9_init_69 : decode cX9_init 69 = .ok (.getfield 39, 3) := by decide +kernel
theorem dX9_init_72 : decode cX9_init 72 = .ok (.aastore, 1) := by decide +kernel
theorem dX9_init_73 : decode cX9_init 73 = .ok (.iinc 5 1, 3) := by decide +kernel
theorem dX9_init_76 : decode cX9_init 76 = .ok (.goto (-21), 3) := by decide +kernel
theorem dX9_init_79 : decode cX9_init 79 = .ok (.aload_n 0, 1) := by decide +kernel
theorem dX9_init_80 : decode cX9_init 80 = .ok (.iload 4, 2) := by decide +kernel
theorem dX9_init_82 : decode cX9_init 82 = .ok (.bipush 8, 2) := by decide +kernel
theorem dX9_init_84 : decode cX9_init 84 = .ok (.iadd, 1) := by decide +kernel
theorem dX9_init_85 : decode cX9_init 85 = .ok (.iconst 1, 1) := by decide +kernel
theorem dX9_init_86 : decode cX9_init 86 = .ok (.iadd, 1) := by decide +kernel
theorem dX9_init_87 : decode cX9_init 87 = .ok (.anewarray 9, 3) := by decide +kernel
theorem dX9_init_90 : decode cX9_init 90 = .ok (.putfield 43, 3) := by decide +kernel
theorem dX9_init_93 : decode cX9_init 93 = .ok (.iconst 0, 1) := by decide +kernel
theorem dX9_init_94 : decode cX9_init 94 = .ok (.istore 5, 2) := by decide +kernel
theorem dX9_init_96 : decode cX9_init 96 = .ok (.iload 5, 2) := by decide +kernel
theorem dX9_init_98 : decode cX9_init 98 = .ok (.aload_n 0, 1) := by decide +kernel
theorem dX9_init_99 : decode cX9_init 99 = .ok (.getfield 43, 3) := by decide +kernel
theorem dX9_init_102 : decode cX9_init 102 = .ok (.arraylength, 1) := by decide +kernel
theorem dX9_init_103 : decode cX9_init 103 = .ok (.if_icmp .ge 23, 3) := by decide +kernel
theorem dX9_init_106 : decode cX9_init 106 = .ok (.aload_n 0, 1) := by decide +kernel
theorem dX9_init_107 : decode cX9_init 107 = .ok (.getfield 43, 3) := by decide +kernel
theorem dX9_init_110 : decode cX9_init 110 = .ok (.iload 5, 2) := by decide +kernel
theorem dX9_init_112 : decode cX9_init 112 = .ok (.new 9, 3) := by decide +kernel
theorem dX9_init_115 : decode cX9_init 115 = .ok (.dup, 1) := by decide +kernel
theorem dX9_init_116 : decode cX9_init 116 = .ok (.invokespecial 38, 3) := by decide +kernel
theorem dX9_init_119 : decode cX9_init 119 = .ok (.aastore, 1) := by decide +kernel
theorem dX9_init_120 : decode cX9_init 120 = .ok (.iinc 5 1, 3) := by decide +kernel
theorem dX9_init_123 : decode cX9_init 123 = .ok (.goto (-27), 3) := by decide +kernel
theorem dX9_init_126 : decode cX9_init 126 = .ok (.aload_n 0, 1) := by decide +kernel
theorem dX9_init_127 : decode cX9_init 127 = .ok (.new 46, 3) := by decide +kernel
theorem dX9_init_130 : decode cX9_init 130 = .ok (.dup, 1) := by decide +kernel
theorem dX9_init_131 : decode cX9_init 131 = .ok (.aload_n 2, 1) := by decide +kernel
theorem dX9_init_132 : decode cX9_init 132 = .ok (.invokespecial 48, 3) := by decide +kernel
theorem dX9_init_135 : decode cX9_init 135 = .ok (.putfield 51, 3) := by decide +kernel
theorem dX9_init_138 : decode cX9_init 138 = .ok (.return_, 1) := by decide +kernel
theorem dX9_startFrom_0 : decode cX9_startFrom 0 = .ok (.aload_n 0, 1) := by decide +kernel
theorem dX9_startFrom_1 : decode cX9_startFrom 1 = .ok (.getfield 17, 3) := by decide +kernel
theorem dX9_startFrom_4 : decode cX9_startFrom 4 = .ok (.aload_n 1, 1) := by decide +kernel
theorem dX9_startFrom_5 : decode cX9_startFrom 5 = .ok (.getfield 17, 3) := by decide +kernel
theorem dX9_startFrom_8 : decode cX9_startFrom 8 = .ok (.invokevirtual 55, 3) := by decide +kernel
theorem dX9_startFrom_11 : decode cX9_startFrom 11 = .ok (.iconst 0, 1) := by decide +kernel
theorem dX9_startFrom_12 : decode cX9_startFrom 12 = .ok (.istore_n 2, 1) := by decide +kernel
theorem dX9_startFrom_13 : decode cX9_startFrom 13 = .ok (.iload_n 2, 1) := by decide +kernel
theorem dX9_startFrom_14 : decode cX9_startFrom 14 = .ok (.bipush 8, 2) := by decide +kernel
theorem dX9_startFrom_16 : decode cX9_startFrom 16 = .ok (.if_icmp .ge 21, 3) := by decide +kernel
theorem dX9_startFrom_19 : decode cX9_startFrom 19 = .ok (.aload_n 0, 1) := by decide +kernel
theorem dX9_startFrom_20 : decode cX9_startFrom 20 = .ok (.getfield 11, 3) := by decide +kernel
theorem dX9_startFrom_23 : decode cX9_startFrom 23 = .ok (.iload_n 2, 1) := by decide +kernel
theorem dX9_startFrom_24 : decode cX9_startFrom 24 = .ok (.aload_n 1, 1) := by decide +kernel
theorem dX9_startFrom_25 : decode cX9_startFrom 25 = .ok (.getfield 11, 3) := by decide +kernel
theorem dX9_startFrom_28 : decode cX9_startFrom 28 = .ok (.iload_n 2, 1) := by decide +kernel
theorem dX9_startFrom_29 : decode cX9_startFrom 29 = .ok (.aaload, 1) := by decide +kernel
theorem dX9_startFrom_30 : decode cX9_startFrom 30 = .ok (.aastore, 1) := by decide +kernel
theorem dX9_startFrom_31 : decode cX9_startFrom 31 = .ok (.iinc 2 1, 3) := by decide +kernel
theorem dX9_startFrom_34 : decode cX9_startFrom 34 = .ok (.goto (-21), 3) := by decide +kernel
theorem dX9_startFrom_37 : decode cX9_startFrom 37 = .ok (.return_, 1) := by decide +kernel
theorem dX9_stateOf_0 : decode cX9_stateOf 0 = .ok (.aload_n 0, 1) := by decide +kernel
theorem dX9_stateOf_1 : decode cX9_stateOf 1 = .ok (.getfield 11, 3) := by decide +kernel
theorem dX9_stateOf_4 : decode cX9_stateOf 4 = .ok (.iload_n 1, 1) := by decide +kernel
theorem dX9_stateOf_5 : decode cX9_stateOf 5 = .ok (.bipush 16, 2) := by decide +kernel
theorem dX9_stateOf_7 : decode cX9_stateOf 7 = .ok (.idiv, 1) := by decide +kernel
theorem dX9_stateOf_8 : decode cX9_stateOf 8 = .ok (.aaload, 1) := by decide +kernel
theorem dX9_stateOf_9 : decode cX9_stateOf 9 = .ok (.areturn, 1) := by decide +kernel
theorem dX9_isFaulty_0 : decode cX9_isFaulty 0 = .ok (.aload_n 0, 1) := by decide +kernel
theorem dX9_isFaulty_1 : decode cX9_isFaulty 1 = .ok (.iload_n 1, 1) := by decide +kernel
theorem dX9_isFaulty_2 : decode cX9_isFaulty 2 = .ok (.invokevirtual 61, 3) := by decide +kernel
theorem dX9_isFaulty_5 : decode cX9_isFaulty 5 = .ok (.astore_n 2, 1) := by decide +kernel
theorem dX9_isFaulty_6 : decode cX9_isFaulty 6 = .ok (.aload_n 2, 1) := by decide +kernel
theorem dX9_isFaulty_7 : decode cX9_isFaulty 7 = .ok (.getfield 65, 3) := by decide +kernel
theorem dX9_isFaulty_10 : decode cX9_isFaulty 10 = .ok (.iload_n 1, 1) := by decide +kernel
theorem dX9_isFaulty_11 : decode cX9_isFaulty 11 = .ok (.invokevirtual 66, 3) := by decide +kernel
theorem dX9_isFaulty_14 : decode cX9_isFaulty 14 = .ok (.ifCond .eq 16, 3) := by decide +kernel
theorem dX9_isFaulty_17 : decode cX9_isFaulty 17 = .ok (.aload_n 2, 1) := by decide +kernel
theorem dX9_isFaulty_18 : decode cX9_isFaulty 18 = .ok (.getfield 70, 3) := by decide +kernel
theorem dX9_isFaulty_21 : decode cX9_isFaulty 21 = .ok (.iload_n 1, 1) := by decide +kernel
theorem dX9_isFaulty_22 : decode cX9_isFaulty 22 = .ok (.iaload, 1) := by decide +kernel
theorem dX9_isFaulty_23 : decode cX9_isFaulty 23 = .ok (.ifCond .eq 7, 3) := by decide +kernel
theorem dX9_isFaulty_26 : decode cX9_isFaulty 26 = .ok (.iconst 1, 1) := by decide +kernel
theorem dX9_isFaulty_27 : decode cX9_isFaulty 27 = .ok (.goto 4, 3) := by decide +kernel
theorem dX9_isFaulty_30 : decode cX9_isFaulty 30 = .ok (.iconst 0, 1) := by decide +kernel
theorem dX9_isFaulty_31 : decode cX9_isFaulty 31 = .ok (.ireturn, 1) := by decide +kernel
theorem dX9_faultCount_0 : decode cX9_faultCount 0 = .ok (.iconst 0, 1) := by decide +kernel
theorem dX9_faultCount_1 : decode cX9_faultCount 1 = .ok (.istore_n 1, 1) := by decide +kernel
theorem dX9_faultCount_2 : decode cX9_faultCount 2 = .ok (.iconst 0, 1) := by decide +kernel
theorem dX9_faultCount_3 : decode cX9_faultCount 3 = .ok (.istore_n 2, 1) := by decide +kernel
theorem dX9_faultCount_4 : decode cX9_faultCount 4 = .ok (.iload_n 2, 1) := by decide +kernel
theorem dX9_faultCount_5 : decode cX9_faultCount 5 = .ok (.sipush 128, 3) := by decide +kernel
theorem dX9_faultCount_8 : decode cX9_faultCount 8 = .ok (.if_icmp .ge 20, 3) := by decide +kernel
theorem dX9_faultCount_11 : decode cX9_faultCount 11 = .ok (.aload_n 0, 1) := by decide +kernel
theorem dX9_faultCount_12 : decode cX9_faultCount 12 = .ok (.iload_n 2, 1) := by decide +kernel
theorem dX9_faultCount_13 : decode cX9_faultCount 13 = .ok (.invokevirtual 74, 3) := by decide +kernel
theorem dX9_faultCount_16 : decode cX9_faultCount 16 = .ok (.ifCond .eq 6, 3) := by decide +kernel
theorem dX9_faultCount_19 : decode cX9_faultCount 19 = .ok (.iinc 1 1, 3) := by decide +kernel
theorem dX9_faultCount_22 : decode cX9_faultCount 22 = .ok (.iinc 2 1, 3) := by decide +kernel
theorem dX9_faultCount_25 : decode cX9_faultCount 25 = .ok (.goto (-21), 3) := by decide +kernel
theorem dX9_faultCount_28 : decode cX9_faultCount 28 = .ok (.iload_n 1, 1) := by decide +kernel
theorem dX9_faultCount_29 : decode cX9_faultCount 29 = .ok (.ireturn, 1) := by decide +kernel
theorem dX9_staleCount_0 : decode cX9_staleCount 0 = .ok (.iconst 0, 1) := by decide +kernel
theorem dX9_staleCount_1 : decode cX9_staleCount 1 = .ok (.istore_n 1, 1) := by decide +kernel
theorem dX9_staleCount_2 : decode cX9_staleCount 2 = .ok (.iconst 0, 1) := by decide +kernel
theorem dX9_staleCount_3 : decode cX9_staleCount 3 = .ok (.istore_n 2, 1) := by decide +kernel
theorem dX9_staleCount_4 : decode cX9_staleCount 4 = .ok (.iload_n 2, 1) := by decide +kernel
theorem dX9_staleCount_5 : decode cX9_staleCount 5 = .ok (.aload_n 0, 1) := by decide +kernel
theorem dX9_staleCount_6 : decode cX9_staleCount 6 = .ok (.getfield 25, 3) := by decide +kernel
theorem dX9_staleCount_9 : decode cX9_staleCount 9 = .ok (.getfield 77, 3) := by decide +kernel
theorem dX9_staleCount_12 : decode cX9_staleCount 12 = .ok (.if_icmp .ge 28, 3) := by decide +kernel
theorem dX9_staleCount_15 : decode cX9_staleCount 15 = .ok (.aload_n 0, 1) := by decide +kernel
theorem dX9_staleCount_16 : decode cX9_staleCount 16 = .ok (.aload_n 0, 1) := by decide +kernel
theorem dX9_staleCount_17 : decode cX9_staleCount 17 = .ok (.getfield 25, 3) := by decide +kernel
theorem dX9_staleCount_20 : decode cX9_staleCount 20 = .ok (.getfield 83, 3) := by decide +kernel
theorem dX9_staleCount_23 : decode cX9_staleCount 23 = .ok (.iload_n 2, 1) := by decide +kernel
theorem dX9_staleCount_24 : decode cX9_staleCount 24 = .ok (.iaload, 1) := by decide +kernel
theorem dX9_staleCount_25 : decode cX9_staleCount 25 = .ok (.invokevirtual 86, 3) := by decide +kernel
theorem dX9_staleCount_28 : decode cX9_staleCount 28 = .ok (.ifCond .eq 6, 3) := by decide +kernel
theorem dX9_staleCount_31 : decode cX9_staleCount 31 = .ok (.iinc 1 1, 3) := by decide +kernel
theorem dX9_staleCount_34 : decode cX9_staleCount 34 = .ok (.iinc 2 1, 3) := by decide +kernel
theorem dX9_staleCount_37 : decode cX9_staleCount 37 = .ok (.goto (-33), 3) := by decide +kernel
theorem dX9_staleCount_40 : decode cX9_staleCount 40 = .ok (.iload_n 1, 1) := by decide +kernel
theorem dX9_staleCount_41 : decode cX9_staleCount 41 = .ok (.ireturn, 1) := by decide +kernel
theorem dX9_reasonOf_0 : decode cX9_reasonOf 0 = .ok (.aload_n 0, 1) := by decide +kernel
theorem dX9_reasonOf_1 : decode cX9_reasonOf 1 = .ok (.iload_n 1, 1) := by decide +kernel
theorem dX9_reasonOf_2 : decode cX9_reasonOf 2 = .ok (.invokevirtual 90, 3) := by decide +kernel
theorem dX9_reasonOf_5 : decode cX9_reasonOf 5 = .ok (.iconst (-1), 1) := by decide +kernel
theorem dX9_reasonOf_6 : decode cX9_reasonOf 6 = .ok (.if_icmp .eq 5, 3) := by decide +kernel
theorem dX9_reasonOf_9 : decode cX9_reasonOf 9 = .ok (.iconst 1, 1) := by decide +kernel
theorem dX9_reasonOf_10 : decode cX9_reasonOf 10 = .ok (.ireturn, 1) := by decide +kernel
theorem dX9_reasonOf_11 : decode cX9_reasonOf 11 = .ok (.aload_n 0, 1) := by decide +kernel
theorem dX9_reasonOf_12 : decode cX9_reasonOf 12 = .ok (.iload_n 1, 1) := by decide +kernel
theorem dX9_reasonOf_13 : decode cX9_reasonOf 13 = .ok (.invokevirtual 93, 3) := by decide +kernel
theorem dX9_reasonOf_16 : decode cX9_reasonOf 16 = .ok (.ifCond .eq 5, 3) := by decide +kernel
theorem dX9_reasonOf_19 : decode cX9_reasonOf 19 = .ok (.iconst 2, 1) := by decide +kernel
theorem dX9_reasonOf_20 : decode cX9_reasonOf 20 = .ok (.ireturn, 1) := by decide +kernel
theorem dX9_reasonOf_21 : decode cX9_reasonOf 21 = .ok (.aload_n 0, 1) := by decide +kernel
theorem dX9_reasonOf_22 : decode cX9_reasonOf 22 = .ok (.iload_n 1, 1) := by decide +kernel
theorem dX9_reasonOf_23 : decode cX9_reasonOf 23 = .ok (.invokevirtual 96, 3) := by decide +kernel
theorem dX9_reasonOf_26 : decode cX9_reasonOf 26 = .ok (.astore_n 2, 1) := by decide +kernel
theorem dX9_reasonOf_27 : decode cX9_reasonOf 27 = .ok (.aload_n 0, 1) := by decide +kernel
theorem dX9_reasonOf_28 : decode cX9_reasonOf 28 = .ok (.aload_n 2, 1) := by decide +kernel
theorem dX9_reasonOf_29 : decode cX9_reasonOf 29 = .ok (.invokevirtual 99, 3) := by decide +kernel
theorem dX9_reasonOf_32 : decode cX9_reasonOf 32 = .ok (.iconst (-1), 1) := by decide +kernel
theorem dX9_reasonOf_33 : decode cX9_reasonOf 33 = .ok (.if_icmp .eq 5, 3) := by decide +kernel
theorem dX9_reasonOf_36 : decode cX9_reasonOf 36 = .ok (.iconst 3, 1) := by decide +kernel
theorem dX9_reasonOf_37 : decode cX9_reasonOf 37 = .ok (.ireturn, 1) := by decide +kernel
theorem dX9_reasonOf_38 : decode cX9_reasonOf 38 = .ok (.aload_n 0, 1) := by decide +kernel
theorem dX9_reasonOf_39 : decode cX9_reasonOf 39 = .ok (.aload_n 2, 1) := by decide +kernel
theorem dX9_reasonOf_40 : decode cX9_reasonOf 40 = .ok (.invokevirtual 103, 3) := by decide +kernel
theorem dX9_reasonOf_43 : decode cX9_reasonOf 43 = .ok (.iconst (-1), 1) := by decide +kernel
theorem dX9_reasonOf_44 : decode cX9_reasonOf 44 = .ok (.if_icmp .eq 7, 3) := by decide +kernel
theorem dX9_reasonOf_47 : decode cX9_reasonOf 47 = .ok (.iconst 4, 1) := by decide +kernel
theorem dX9_reasonOf_48 : decode cX9_reasonOf 48 = .ok (.goto 4, 3) := by decide +kernel
theorem dX9_reasonOf_51 : decode cX9_reasonOf 51 = .ok (.iconst 0, 1) := by decide +kernel
theorem dX9_reasonOf_52 : decode cX9_reasonOf 52 = .ok (.ireturn, 1) := by decide +kernel
theorem dX9_culpritOf_0 : decode cX9_culpritOf 0 = .ok (.iload_n 2, 1) := by decide +kernel
theorem dX9_culpritOf_1 : decode cX9_culpritOf 1 = .ok (.tableswitch 52 1 4 #[31, 47, 37, 47], 31) := by decide +kernel
theorem dX9_culpritOf_32 : decode cX9_culpritOf 32 = .ok (.aload_n 0, 1) := by decide +kernel
theorem dX9_culpritOf_33 : decode cX9_culpritOf 33 = .ok (.iload_n 1, 1) := by decide +kernel
theorem dX9_culpritOf_34 : decode cX9_culpritOf 34 = .ok (.invokevirtual 90, 3) := by decide +kernel
theorem dX9_culpritOf_37 : decode cX9_culpritOf 37 = .ok (.ireturn, 1) := by decide +kernel
theorem dX9_culpritOf_38 : decode cX9_culpritOf 38 = .ok (.aload_n 0, 1) := by decide +kernel
theorem dX9_culpritOf_39 : decode cX9_culpritOf 39 = .ok (.aload_n 0, 1) := by decide +kernel
theorem dX9_culpritOf_40 : decode cX9_culpritOf 40 = .ok (.iload_n 1, 1) := by decide +kernel
theorem dX9_culpritOf_41 : decode cX9_culpritOf 41 = .ok (.invokevirtual 96, 3) := by decide +kernel
theorem dX9_culpritOf_44 : decode cX9_culpritOf 44 = .ok (.invokevirtual 99, 3) := by decide +kernel
theorem dX9_culpritOf_47 : decode cX9_culpritOf 47 = .ok (.ireturn, 1) := by decide +kernel
theorem dX9_culpritOf_48 : decode cX9_culpritOf 48 = .ok (.iload_n 1, 1) := by decide +kernel
theorem dX9_culpritOf_49 : decode cX9_culpritOf 49 = .ok (.invokestatic 106, 3) := by decide +kernel
theorem dX9_culpritOf_52 : decode cX9_culpritOf 52 = .ok (.ireturn, 1) := by decide +kernel
theorem dX9_culpritOf_53 : decode cX9_culpritOf 53 = .ok (.iconst (-1), 1) := by decide +kernel
theorem dX9_culpritOf_54 : decode cX9_culpritOf 54 = .ok (.ireturn, 1) := by decide +kernel
theorem dX9_firstUnbuilt_0 : decode cX9_firstUnbuilt 0 = .ok (.iconst 0, 1) := by decide +kernel
theorem dX9_firstUnbuilt_1 : decode cX9_firstUnbuilt 1 = .ok (.istore_n 2, 1) := by decide +kernel
theorem dX9_firstUnbuilt_2 : decode cX9_firstUnbuilt 2 = .ok (.iload_n 2, 1) := by decide +kernel
theorem dX9_firstUnbuilt_3 : decode cX9_firstUnbuilt 3 = .ok (.bipush 8, 2) := by decide +kernel
theorem dX9_firstUnbuilt_5 : decode cX9_firstUnbuilt 5 = .ok (.if_icmp .ge 31, 3) := by decide +kernel
theorem dX9_firstUnbuilt_8 : decode cX9_firstUnbuilt 8 = .ok (.iload_n 1, 1) := by decide +kernel
theorem dX9_firstUnbuilt_9 : decode cX9_firstUnbuilt 9 = .ok (.iload_n 2, 1) := by decide +kernel
theorem dX9_firstUnbuilt_10 : decode cX9_firstUnbuilt 10 = .ok (.invokestatic 109, 3) := by decide +kernel
theorem dX9_firstUnbuilt_13 : decode cX9_firstUnbuilt 13 = .ok (.ifCond .eq 17, 3) := by decide +kernel
theorem dX9_firstUnbuilt_16 : decode cX9_firstUnbuilt 16 = .ok (.aload_n 0, 1) := by decide +kernel
theorem dX9_firstUnbuilt_17 : decode cX9_firstUnbuilt 17 = .ok (.getfield 11, 3) := by decide +kernel
theorem dX9_firstUnbuilt_20 : decode cX9_firstUnbuilt 20 = .ok (.iload_n 2, 1) := by decide +kernel
theorem dX9_firstUnbuilt_21 : decode cX9_firstUnbuilt 21 = .ok (.aaload, 1) := by decide +kernel
theorem dX9_firstUnbuilt_22 : decode cX9_firstUnbuilt 22 = .ok (.getfield 113, 3) := by decide +kernel
theorem dX9_firstUnbuilt_25 : decode cX9_firstUnbuilt 25 = .ok (.ifCond .ne 5, 3) := by decide +kernel
theorem dX9_firstUnbuilt_28 : decode cX9_firstUnbuilt 28 = .ok (.iload_n 2, 1) := by decide +kernel
theorem dX9_firstUnbuilt_29 : decode cX9_firstUnbuilt 29 = .ok (.ireturn, 1) := by decide +kernel
theorem dX9_firstUnbuilt_30 : decode cX9_firstUnbuilt 30 = .ok (.iinc 2 1, 3) := by decide +kernel
theorem dX9_firstUnbuilt_33 : decode cX9_firstUnbuilt 33 = .ok (.goto (-31), 3) := by decide +kernel
theorem dX9_firstUnbuilt_36 : decode cX9_firstUnbuilt 36 = .ok (.iconst (-1), 1) := by decide +kernel
theorem dX9_firstUnbuilt_37 : decode cX9_firstUnbuilt 37 = .ok (.ireturn, 1) := by decide +kernel
theorem dX9_wasInOtherRing_0 : decode cX9_wasInOtherRing 0 = .ok (.iconst 0, 1) := by decide +kernel
theorem dX9_wasInOtherRing_1 : decode cX9_wasInOtherRing 1 = .ok (.istore_n 2, 1) := by decide +kernel
theorem dX9_wasInOtherRing_2 : decode cX9_wasInOtherRing 2 = .ok (.iload_n 2, 1) := by decide +kernel
theorem dX9_wasInOtherRing_3 : decode cX9_wasInOtherRing 3 = .ok (.bipush 8, 2) := by decide +kernel
theorem dX9_wasInOtherRing_5 : decode cX9_wasInOtherRing 5 = .ok (.if_icmp .ge 32, 3) := by decide +kernel
theorem dX9_wasInOtherRing_8 : decode cX9_wasInOtherRing 8 = .ok (.iload_n 1, 1) := by decide +kernel
theorem dX9_wasInOtherRing_9 : decode cX9_wasInOtherRing 9 = .ok (.iload_n 2, 1) := by decide +kernel
theorem dX9_wasInOtherRing_10 : decode cX9_wasInOtherRing 10 = .ok (.invokestatic 109, 3) := by decide +kernel
theorem dX9_wasInOtherRing_13 : decode cX9_wasInOtherRing 13 = .ok (.ifCond .eq 18, 3) := by decide +kernel
theorem dX9_wasInOtherRing_16 : decode cX9_wasInOtherRing 16 = .ok (.aload_n 0, 1) := by decide +kernel
theorem dX9_wasInOtherRing_17 : decode cX9_wasInOtherRing 17 = .ok (.getfield 11, 3) := by decide +kernel
theorem dX9_wasInOtherRing_20 : decode cX9_wasInOtherRing 20 = .ok (.iload_n 2, 1) := by decide +kernel
theorem dX9_wasInOtherRing_21 : decode cX9_wasInOtherRing 21 = .ok (.aaload, 1) := by decide +kernel
theorem dX9_wasInOtherRing_22 : decode cX9_wasInOtherRing 22 = .ok (.getfield 113, 3) := by decide +kernel
theorem dX9_wasInOtherRing_25 : decode cX9_wasInOtherRing 25 = .ok (.iload_n 1, 1) := by decide +kernel
theorem dX9_wasInOtherRing_26 : decode cX9_wasInOtherRing 26 = .ok (.if_icmp .eq 5, 3) := by decide +kernel
theorem dX9_wasInOtherRing_29 : decode cX9_wasInOtherRing 29 = .ok (.iconst 1, 1) := by decide +kernel
theorem dX9_wasInOtherRing_30 : decode cX9_wasInOtherRing 30 = .ok (.ireturn, 1) := by decide +kernel
theorem dX9_wasInOtherRing_31 : decode cX9_wasInOtherRing 31 = .ok (.iinc 2 1, 3) := by decide +kernel
theorem dX9_wasInOtherRing_34 : decode cX9_wasInOtherRing 34 = .ok (.goto (-32), 3) := by decide +kernel
theorem dX9_wasInOtherRing_37 : decode cX9_wasInOtherRing 37 = .ok (.iconst 0, 1) := by decide +kernel
theorem dX9_wasInOtherRing_38 : decode cX9_wasInOtherRing 38 = .ok (.ireturn, 1) := by decide +kernel
theorem dX9_firstOtherText_0 : decode cX9_firstOtherText 0 = .ok (.iconst 0, 1) := by decide +kernel
theorem dX9_firstOtherText_1 : decode cX9_firstOtherText 1 = .ok (.istore_n 2, 1) := by decide +kernel
theorem dX9_firstOtherText_2 : decode cX9_firstOtherText 2 = .ok (.iload_n 2, 1) := by decide +kernel
theorem dX9_firstOtherText_3 : decode cX9_firstOtherText 3 = .ok (.bipush 8, 2) := by decide +kernel
theorem dX9_firstOtherText_5 : decode cX9_firstOtherText 5 = .ok (.if_icmp .ge 37, 3) := by decide +kernel
theorem dX9_firstOtherText_8 : decode cX9_firstOtherText 8 = .ok (.aload_n 1, 1) := by decide +kernel
theorem dX9_firstOtherText_9 : decode cX9_firstOtherText 9 = .ok (.getfield 113, 3) := by decide +kernel
theorem dX9_firstOtherText_12 : decode cX9_firstOtherText 12 = .ok (.iload_n 2, 1) := by decide +kernel
theorem dX9_firstOtherText_13 : decode cX9_firstOtherText 13 = .ok (.invokestatic 109, 3) := by decide +kernel
theorem dX9_firstOtherText_16 : decode cX9_firstOtherText 16 = .ok (.ifCond .eq 20, 3) := by decide +kernel
theorem dX9_firstOtherText_19 : decode cX9_firstOtherText 19 = .ok (.aload_n 0, 1) := by decide +kernel
theorem dX9_firstOtherText_20 : decode cX9_firstOtherText 20 = .ok (.getfield 17, 3) := by decide +kernel
theorem dX9_firstOtherText_23 : decode cX9_firstOtherText 23 = .ok (.aload_n 1, 1) := by decide +kernel
theorem dX9_firstOtherText_24 : decode cX9_firstOtherText 24 = .ok (.getfield 65, 3) := by decide +kernel
theorem dX9_firstOtherText_27 : decode cX9_firstOtherText 27 = .ok (.iload_n 2, 1) := by decide +kernel
theorem dX9_firstOtherText_28 : decode cX9_firstOtherText 28 = .ok (.invokevirtual 116, 3) := by decide +kernel
theorem dX9_firstOtherText_31 : decode cX9_firstOtherText 31 = .ok (.ifCond .ne 5, 3) := by decide +kernel
theorem dX9_firstOtherText_34 : decode cX9_firstOtherText 34 = .ok (.iload_n 2, 1) := by decide +kernel
theorem dX9_firstOtherText_35 : decode cX9_firstOtherText 35 = .ok (.ireturn, 1) := by decide +kernel
theorem dX9_firstOtherText_36 : decode cX9_firstOtherText 36 = .ok (.iinc 2 1, 3) := by decide +kernel
theorem dX9_firstOtherText_39 : decode cX9_firstOtherText 39 = .ok (.goto (-37), 3) := by decide +kernel
theorem dX9_firstOtherText_42 : decode cX9_firstOtherText 42 = .ok (.iconst (-1), 1) := by decide +kernel
theorem dX9_firstOtherText_43 : decode cX9_firstOtherText 43 = .ok (.ireturn, 1) := by decide +kernel
theorem dX9_resultOf_0 : decode cX9_resultOf 0 = .ok (.iload_n 1, 1) := by decide +kernel
theorem dX9_resultOf_1 : decode cX9_resultOf 1 = .ok (.invokestatic 106, 3) := by decide +kernel
theorem dX9_resultOf_4 : decode cX9_resultOf 4 = .ok (.istore_n 2, 1) := by decide +kernel
theorem dX9_resultOf_5 : decode cX9_resultOf 5 = .ok (.iload_n 2, 1) := by decide +kernel
theorem dX9_resultOf_6 : decode cX9_resultOf 6 = .ok (.iconst (-1), 1) := by decide +kernel
theorem dX9_resultOf_7 : decode cX9_resultOf 7 = .ok (.if_icmp .ne 10, 3) := by decide +kernel
theorem dX9_resultOf_10 : decode cX9_resultOf 10 = .ok (.aload_n 0, 1) := by decide +kernel
theorem dX9_resultOf_11 : decode cX9_resultOf 11 = .ok (.getfield 39, 3) := by decide +kernel
theorem dX9_resultOf_14 : decode cX9_resultOf 14 = .ok (.goto 9, 3) := by decide +kernel
theorem dX9_resultOf_17 : decode cX9_resultOf 17 = .ok (.aload_n 0, 1) := by decide +kernel
theorem dX9_resultOf_18 : decode cX9_resultOf 18 = .ok (.getfield 11, 3) := by decide +kernel
theorem dX9_resultOf_21 : decode cX9_resultOf 21 = .ok (.iload_n 2, 1) := by decide +kernel
theorem dX9_resultOf_22 : decode cX9_resultOf 22 = .ok (.aaload, 1) := by decide +kernel
theorem dX9_resultOf_23 : decode cX9_resultOf 23 = .ok (.areturn, 1) := by decide +kernel
theorem dX9_firstOtherAnswer_0 : decode cX9_firstOtherAnswer 0 = .ok (.iconst 0, 1) := by decide +kernel
theorem dX9_firstOtherAnswer_1 : decode cX9_firstOtherAnswer 1 = .ok (.istore_n 2, 1) := by decide +kernel
theorem dX9_firstOtherAnswer_2 : decode cX9_firstOtherAnswer 2 = .ok (.iload_n 2, 1) := by decide +kernel
theorem dX9_firstOtherAnswer_3 : decode cX9_firstOtherAnswer 3 = .ok (.sipush 128, 3) := by decide +kernel
theorem dX9_firstOtherAnswer_6 : decode cX9_firstOtherAnswer 6 = .ok (.if_icmp .ge 43, 3) := by decide +kernel
theorem dX9_firstOtherAnswer_9 : decode cX9_firstOtherAnswer 9 = .ok (.aload_n 1, 1) := by decide +kernel
theorem dX9_firstOtherAnswer_10 : decode cX9_firstOtherAnswer 10 = .ok (.getfield 120, 3) := by decide +kernel
theorem dX9_firstOtherAnswer_13 : decode cX9_firstOtherAnswer 13 = .ok (.iload_n 2, 1) := by decide +kernel
theorem dX9_firstOtherAnswer_14 : decode cX9_firstOtherAnswer 14 = .ok (.laload, 1) := by decide +kernel
theorem dX9_firstOtherAnswer_15 : decode cX9_firstOtherAnswer 15 = .ok (.ldc2_w 124, 3) := by decide +kernel
theorem dX9_firstOtherAnswer_18 : decode cX9_firstOtherAnswer 18 = .ok (.lcmp, 1) := by decide +kernel
theorem dX9_firstOtherAnswer_19 : decode cX9_firstOtherAnswer 19 = .ok (.ifCond .eq 24, 3) := by decide +kernel
theorem dX9_firstOtherAnswer_22 : decode cX9_firstOtherAnswer 22 = .ok (.aload_n 1, 1) := by decide +kernel
theorem dX9_firstOtherAnswer_23 : decode cX9_firstOtherAnswer 23 = .ok (.getfield 120, 3) := by decide +kernel
theorem dX9_firstOtherAnswer_26 : decode cX9_firstOtherAnswer 26 = .ok (.iload_n 2, 1) := by decide +kernel
theorem dX9_firstOtherAnswer_27 : decode cX9_firstOtherAnswer 27 = .ok (.laload, 1) := by decide +kernel
theorem dX9_firstOtherAnswer_28 : decode cX9_firstOtherAnswer 28 = .ok (.aload_n 0, 1) := by decide +kernel
theorem dX9_firstOtherAnswer_29 : decode cX9_firstOtherAnswer 29 = .ok (.iload_n 2, 1) := by decide +kernel
theorem dX9_firstOtherAnswer_30 : decode cX9_firstOtherAnswer 30 = .ok (.aload_n 1, 1) := by decide +kernel
theorem dX9_firstOtherAnswer_31 : decode cX9_firstOtherAnswer 31 = .ok (.getfield 113, 3) := by decide +kernel
theorem dX9_firstOtherAnswer_34 : decode cX9_firstOtherAnswer 34 = .ok (.invokevirtual 126, 3) := by decide +kernel
theorem dX9_firstOtherAnswer_37 : decode cX9_firstOtherAnswer 37 = .ok (.lcmp, 1) := by decide +kernel
theorem dX9_firstOtherAnswer_38 : decode cX9_firstOtherAnswer 38 = .ok (.ifCond .eq 5, 3) := by decide +kernel
theorem dX9_firstOtherAnswer_41 : decode cX9_firstOtherAnswer 41 = .ok (.iload_n 2, 1) := by decide +kernel
theorem dX9_firstOtherAnswer_42 : decode cX9_firstOtherAnswer 42 = .ok (.ireturn, 1) := by decide +kernel
theorem dX9_firstOtherAnswer_43 : decode cX9_firstOtherAnswer 43 = .ok (.iinc 2 1, 3) := by decide +kernel
theorem dX9_firstOtherAnswer_46 : decode cX9_firstOtherAnswer 46 = .ok (.goto (-44), 3) := by decide +kernel
theorem dX9_firstOtherAnswer_49 : decode cX9_firstOtherAnswer 49 = .ok (.iconst (-1), 1) := by decide +kernel
theorem dX9_firstOtherAnswer_50 : decode cX9_firstOtherAnswer 50 = .ok (.ireturn, 1) := by decide +kernel
theorem dX9_answerTo_0 : decode cX9_answerTo 0 = .ok (.aload_n 0, 1) := by decide +kernel
theorem dX9_answerTo_1 : decode cX9_answerTo 1 = .ok (.getfield 21, 3) := by decide +kernel
theorem dX9_answerTo_4 : decode cX9_answerTo 4 = .ok (.getfield 130, 3) := by decide +kernel
theorem dX9_answerTo_7 : decode cX9_answerTo 7 = .ok (.iload_n 1, 1) := by decide +kernel
theorem dX9_answerTo_8 : decode cX9_answerTo 8 = .ok (.iaload, 1) := by decide +kernel
theorem dX9_answerTo_9 : decode cX9_answerTo 9 = .ok (.istore_n 3, 1) := by decide +kernel
theorem dX9_answerTo_10 : decode cX9_answerTo 10 = .ok (.iload_n 3, 1) := by decide +kernel
theorem dX9_answerTo_11 : decode cX9_answerTo 11 = .ok (.ifCond .lt 14, 3) := by decide +kernel
theorem dX9_answerTo_14 : decode cX9_answerTo 14 = .ok (.iload_n 2, 1) := by decide +kernel
theorem dX9_answerTo_15 : decode cX9_answerTo 15 = .ok (.iload_n 3, 1) := by decide +kernel
theorem dX9_answerTo_16 : decode cX9_answerTo 16 = .ok (.bipush 16, 2) := by decide +kernel
theorem dX9_answerTo_18 : decode cX9_answerTo 18 = .ok (.idiv, 1) := by decide +kernel
theorem dX9_answerTo_19 : decode cX9_answerTo 19 = .ok (.invokestatic 109, 3) := by decide +kernel
theorem dX9_answerTo_22 : decode cX9_answerTo 22 = .ok (.ifCond .eq 6, 3) := by decide +kernel
theorem dX9_answerTo_25 : decode cX9_answerTo 25 = .ok (.iload_n 3, 1) := by decide +kernel
theorem dX9_answerTo_26 : decode cX9_answerTo 26 = .ok (.i2l, 1) := by decide +kernel
theorem dX9_answerTo_27 : decode cX9_answerTo 27 = .ok (.lreturn, 1) := by decide +kernel
theorem dX9_answerTo_28 : decode cX9_answerTo 28 = .ok (.aload_n 0, 1) := by decide +kernel
theorem dX9_answerTo_29 : decode cX9_answerTo 29 = .ok (.getfield 11, 3) := by decide +kernel
theorem dX9_answerTo_32 : decode cX9_answerTo 32 = .ok (.iload_n 3, 1) := by decide +kernel
theorem dX9_answerTo_33 : decode cX9_answerTo 33 = .ok (.bipush 16, 2) := by decide +kernel
theorem dX9_answerTo_35 : decode cX9_answerTo 35 = .ok (.idiv, 1) := by decide +kernel
theorem dX9_answerTo_36 : decode cX9_answerTo 36 = .ok (.aaload, 1) := by decide +kernel
theorem dX9_answerTo_37 : decode cX9_answerTo 37 = .ok (.getfield 135, 3) := by decide +kernel
theorem dX9_answerTo_40 : decode cX9_answerTo 40 = .ok (.iload_n 3, 1) := by decide +kernel
theorem dX9_answerTo_41 : decode cX9_answerTo 41 = .ok (.laload, 1) := by decide +kernel
theorem dX9_answerTo_42 : decode cX9_answerTo 42 = .ok (.lreturn, 1) := by decide +kernel
theorem dX9_renewAll_0 : decode cX9_renewAll 0 = .ok (.iconst 0, 1) := by decide +kernel
theorem dX9_renewAll_1 : decode cX9_renewAll 1 = .ok (.istore_n 1, 1) := by decide +kernel
theorem dX9_renewAll_2 : decode cX9_renewAll 2 = .ok (.iconst 0, 1) := by decide +kernel
theorem dX9_renewAll_3 : decode cX9_renewAll 3 = .ok (.istore_n 2, 1) := by decide +kernel
theorem dX9_renewAll_4 : decode cX9_renewAll 4 = .ok (.iload_n 2, 1) := by decide +kernel
theorem dX9_renewAll_5 : decode cX9_renewAll 5 = .ok (.aload_n 0, 1) := by decide +kernel
theorem dX9_renewAll_6 : decode cX9_renewAll 6 = .ok (.getfield 25, 3) := by decide +kernel
theorem dX9_renewAll_9 : decode cX9_renewAll 9 = .ok (.getfield 77, 3) := by decide +kernel
theorem dX9_renewAll_12 : decode cX9_renewAll 12 = .ok (.if_icmp .ge 42, 3) := by decide +kernel
theorem dX9_renewAll_15 : decode cX9_renewAll 15 = .ok (.aload_n 0, 1) := by decide +kernel
theorem dX9_renewAll_16 : decode cX9_renewAll 16 = .ok (.aload_n 0, 1) := by decide +kernel
theorem dX9_renewAll_17 : decode cX9_renewAll 17 = .ok (.getfield 25, 3) := by decide +kernel
theorem dX9_renewAll_20 : decode cX9_renewAll 20 = .ok (.getfield 83, 3) := by decide +kernel
theorem dX9_renewAll_23 : decode cX9_renewAll 23 = .ok (.iload_n 2, 1) := by decide +kernel
theorem dX9_renewAll_24 : decode cX9_renewAll 24 = .ok (.iaload, 1) := by decide +kernel
theorem dX9_renewAll_25 : decode cX9_renewAll 25 = .ok (.invokevirtual 86, 3) := by decide +kernel
theorem dX9_renewAll_28 : decode cX9_renewAll 28 = .ok (.ifCond .eq 20, 3) := by decide +kernel
theorem dX9_renewAll_31 : decode cX9_renewAll 31 = .ok (.aload_n 0, 1) := by decide +kernel
theorem dX9_renewAll_32 : decode cX9_renewAll 32 = .ok (.aload_n 0, 1) := by decide +kernel
theorem dX9_renewAll_33 : decode cX9_renewAll 33 = .ok (.getfield 25, 3) := by decide +kernel
theorem dX9_renewAll_36 : decode cX9_renewAll 36 = .ok (.getfield 83, 3) := by decide +kernel
theorem dX9_renewAll_39 : decode cX9_renewAll 39 = .ok (.iload_n 2, 1) := by decide +kernel
theorem dX9_renewAll_40 : decode cX9_renewAll 40 = .ok (.iaload, 1) := by decide +kernel
theorem dX9_renewAll_41 : decode cX9_renewAll 41 = .ok (.invokevirtual 138, 3) := by decide +kernel
theorem dX9_renewAll_44 : decode cX9_renewAll 44 = .ok (.pop, 1) := by decide +kernel
theorem dX9_renewAll_45 : decode cX9_renewAll 45 = .ok (.iinc 1 1, 3) := by decide +kernel
theorem dX9_renewAll_48 : decode cX9_renewAll 48 = .ok (.iinc 2 1, 3) := by decide +kernel
theorem dX9_renewAll_51 : decode cX9_renewAll 51 = .ok (.goto (-47), 3) := by decide +kernel
theorem dX9_renewAll_54 : decode cX9_renewAll 54 = .ok (.iload_n 1, 1) := by decide +kernel
theorem dX9_renewAll_55 : decode cX9_renewAll 55 = .ok (.ireturn, 1) := by decide +kernel
theorem dX9_renewRound_0 : decode cX9_renewRound 0 = .ok (.aload_n 0, 1) := by decide +kernel
theorem dX9_renewRound_1 : decode cX9_renewRound 1 = .ok (.invokevirtual 141, 3) := by decide +kernel
theorem dX9_renewRound_4 : decode cX9_renewRound 4 = .ok (.istore_n 2, 1) := by decide +kernel
theorem dX9_renewRound_5 : decode cX9_renewRound 5 = .ok (.iconst 0, 1) := by decide +kernel
theorem dX9_renewRound_6 : decode cX9_renewRound 6 = .ok (.istore_n 3, 1) := by decide +kernel
theorem dX9_renewRound_7 : decode cX9_renewRound 7 = .ok (.iconst 0, 1) := by decide +kernel
theorem dX9_renewRound_8 : decode cX9_renewRound 8 = .ok (.istore 4, 2) := by decide +kernel
theorem dX9_renewRound_10 : decode cX9_renewRound 10 = .ok (.iload 4, 2) := by decide +kernel
theorem dX9_renewRound_12 : decode cX9_renewRound 12 = .ok (.aload_n 0, 1) := by decide +kernel
theorem dX9_renewRound_13 : decode cX9_renewRound 13 = .ok (.getfield 25, 3) := by decide +kernel
theorem dX9_renewRound_16 : decode cX9_renewRound 16 = .ok (.getfield 77, 3) := by decide +kernel
theorem dX9_renewRound_19 : decode cX9_renewRound 19 = .ok (.if_icmp .ge 72, 3) := by decide +kernel
theorem dX9_renewRound_22 : decode cX9_renewRound 22 = .ok (.iload_n 3, 1) := by decide +kernel
theorem dX9_renewRound_23 : decode cX9_renewRound 23 = .ok (.iload_n 1, 1) := by decide +kernel
theorem dX9_renewRound_24 : decode cX9_renewRound 24 = .ok (.if_icmp .ge 67, 3) := by decide +kernel
theorem dX9_renewRound_27 : decode cX9_renewRound 27 = .ok (.aload_n 0, 1) := by decide +kernel
theorem dX9_renewRound_28 : decode cX9_renewRound 28 = .ok (.getfield 25, 3) := by decide +kernel
theorem dX9_renewRound_31 : decode cX9_renewRound 31 = .ok (.getfield 83, 3) := by decide +kernel
theorem dX9_renewRound_34 : decode cX9_renewRound 34 = .ok (.iload 4, 2) := by decide +kernel
theorem dX9_renewRound_36 : decode cX9_renewRound 36 = .ok (.iaload, 1) := by decide +kernel
theorem dX9_renewRound_37 : decode cX9_renewRound 37 = .ok (.istore 5, 2) := by decide +kernel
theorem dX9_renewRound_39 : decode cX9_renewRound 39 = .ok (.iload 5, 2) := by decide +kernel
theorem dX9_renewRound_41 : decode cX9_renewRound 41 = .ok (.invokestatic 106, 3) := by decide +kernel
theorem dX9_renewRound_44 : decode cX9_renewRound 44 = .ok (.istore 6, 2) := by decide +kernel
theorem dX9_renewRound_46 : decode cX9_renewRound 46 = .ok (.iload_n 2, 1) := by decide +kernel
theorem dX9_renewRound_47 : decode cX9_renewRound 47 = .ok (.iload 6, 2) := by decide +kernel
theorem dX9_renewRound_49 : decode cX9_renewRound 49 = .ok (.invokestatic 109, 3) := by decide +kernel
theorem dX9_renewRound_52 : decode cX9_renewRound 52 = .ok (.ifCond .eq 33, 3) := by decide +kernel
theorem dX9_renewRound_55 : decode cX9_renewRound 55 = .ok (.aload_n 0, 1) := by decide +kernel
theorem dX9_renewRound_56 : decode cX9_renewRound 56 = .ok (.getfield 25, 3) := by decide +kernel
theorem dX9_renewRound_59 : decode cX9_renewRound 59 = .ok (.getfield 145, 3) := by decide +kernel
theorem dX9_renewRound_62 : decode cX9_renewRound 62 = .ok (.iload 6, 2) := by decide +kernel
theorem dX9_renewRound_64 : decode cX9_renewRound 64 = .ok (.iaload, 1) := by decide +kernel
theorem dX9_renewRound_65 : decode cX9_renewRound 65 = .ok (.iload 5, 2) := by decide +kernel
theorem dX9_renewRound_67 : decode cX9_renewRound 67 = .ok (.iconst (-1), 1) := by decide +kernel
theorem dX9_renewRound_68 : decode cX9_renewRound 68 = .ok (.ixor, 1) := by decide +kernel
theorem dX9_renewRound_69 : decode cX9_renewRound 69 = .ok (.iand, 1) := by decide +kernel
theorem dX9_renewRound_70 : decode cX9_renewRound 70 = .ok (.iload_n 2, 1) := by decide +kernel
theorem dX9_renewRound_71 : decode cX9_renewRound 71 = .ok (.iand, 1) := by decide +kernel
theorem dX9_renewRound_72 : decode cX9_renewRound 72 = .ok (.ifCond .ne 13, 3) := by decide +kernel
theorem dX9_renewRound_75 : decode cX9_renewRound 75 = .ok (.aload_n 0, 1) := by decide +kernel
theorem dX9_renewRound_76 : decode cX9_renewRound 76 = .ok (.iload 5, 2) := by decide +kernel
theorem dX9_renewRound_78 : decode cX9_renewRound 78 = .ok (.invokevirtual 138, 3) := by decide +kernel
theorem dX9_renewRound_81 : decode cX9_renewRound 81 = .ok (.pop, 1) := by decide +kernel
theorem dX9_renewRound_82 : decode cX9_renewRound 82 = .ok (.iinc 3 1, 3) := by decide +kernel
theorem dX9_renewRound_85 : decode cX9_renewRound 85 = .ok (.iinc 4 1, 3) := by decide +kernel
theorem dX9_renewRound_88 : decode cX9_renewRound 88 = .ok (.goto (-78), 3) := by decide +kernel
theorem dX9_renewRound_91 : decode cX9_renewRound 91 = .ok (.iload_n 3, 1) := by decide +kernel
theorem dX9_renewRound_92 : decode cX9_renewRound 92 = .ok (.ireturn, 1) := by decide +kernel
theorem dX9_staleModules_0 : decode cX9_staleModules 0 = .ok (.iconst 0, 1) := by decide +kernel
theorem dX9_staleModules_1 : decode cX9_staleModules 1 = .ok (.istore_n 1, 1) := by decide +kernel
theorem dX9_staleModules_2 : decode cX9_staleModules 2 = .ok (.iconst 0, 1) := by decide +kernel
theorem dX9_staleModules_3 : decode cX9_staleModules 3 = .ok (.istore_n 2, 1) := by decide +kernel
theorem dX9_staleModules_4 : decode cX9_staleModules 4 = .ok (.iload_n 2, 1) := by decide +kernel
theorem dX9_staleModules_5 : decode cX9_staleModules 5 = .ok (.aload_n 0, 1) := by decide +kernel
theorem dX9_staleModules_6 : decode cX9_staleModules 6 = .ok (.getfield 25, 3) := by decide +kernel
theorem dX9_staleModules_9 : decode cX9_staleModules 9 = .ok (.getfield 77, 3) := by decide +kernel
theorem dX9_staleModules_12 : decode cX9_staleModules 12 = .ok (.if_icmp .ge 37, 3) := by decide +kernel
theorem dX9_staleModules_15 : decode cX9_staleModules 15 = .ok (.aload_n 0, 1) := by decide +kernel
theorem dX9_staleModules_16 : decode cX9_staleModules 16 = .ok (.aload_n 0, 1) := by decide +kernel
theorem dX9_staleModules_17 : decode cX9_staleModules 17 = .ok (.getfield 25, 3) := by decide +kernel
theorem dX9_staleModules_20 : decode cX9_staleModules 20 = .ok (.getfield 83, 3) := by decide +kernel
theorem dX9_staleModules_23 : decode cX9_staleModules 23 = .ok (.iload_n 2, 1) := by decide +kernel
theorem dX9_staleModules_24 : decode cX9_staleModules 24 = .ok (.iaload, 1) := by decide +kernel
theorem dX9_staleModules_25 : decode cX9_staleModules 25 = .ok (.invokevirtual 86, 3) := by decide +kernel
theorem dX9_staleModules_28 : decode cX9_staleModules 28 = .ok (.ifCond .eq 15, 3) := by decide +kernel
theorem dX9_staleModules_31 : decode cX9_staleModules 31 = .ok (.iload_n 1, 1) := by decide +kernel
theorem dX9_staleModules_32 : decode cX9_staleModules 32 = .ok (.aload_n 0, 1) := by decide +kernel
theorem dX9_staleModules_33 : decode cX9_staleModules 33 = .ok (.getfield 25, 3) := by decide +kernel
theorem dX9_staleModules_36 : decode cX9_staleModules 36 = .ok (.getfield 83, 3) := by decide +kernel
theorem dX9_staleModules_39 : decode cX9_staleModules 39 = .ok (.iload_n 2, 1) := by decide +kernel
theorem dX9_staleModules_40 : decode cX9_staleModules 40 = .ok (.iaload, 1) := by decide +kernel
theorem dX9_staleModules_41 : decode cX9_staleModules 41 = .ok (.ior, 1) := by decide +kernel
theorem dX9_staleModules_42 : decode cX9_staleModules 42 = .ok (.istore_n 1, 1) := by decide +kernel
theorem dX9_staleModules_43 : decode cX9_staleModules 43 = .ok (.iinc 2 1, 3) := by decide +kernel
theorem dX9_staleModules_46 : decode cX9_staleModules 46 = .ok (.goto (-42), 3) := by decide +kernel
theorem dX9_staleModules_49 : decode cX9_staleModules 49 = .ok (.iload_n 1, 1) := by decide +kernel
theorem dX9_staleModules_50 : decode cX9_staleModules 50 = .ok (.ireturn, 1) := by decide +kernel
theorem dX9_renew_0 : decode cX9_renew 0 = .ok (.aload_n 0, 1) := by decide +kernel
theorem dX9_renew_1 : decode cX9_renew 1 = .ok (.iload_n 1, 1) := by decide +kernel
theorem dX9_renew_2 : decode cX9_renew 2 = .ok (.invokevirtual 148, 3) := by decide +kernel
theorem dX9_renew_5 : decode cX9_renew 5 = .ok (.istore_n 2, 1) := by decide +kernel
theorem dX9_renew_6 : decode cX9_renew 6 = .ok (.iload_n 2, 1) := by decide +kernel
theorem dX9_renew_7 : decode cX9_renew 7 = .ok (.iconst (-1), 1) := by decide +kernel
theorem dX9_renew_8 : decode cX9_renew 8 = .ok (.if_icmp .eq 7, 3) := by decide +kernel
theorem dX9_renew_11 : decode cX9_renew 11 = .ok (.iconst 1, 1) := by decide +kernel
theorem dX9_renew_12 : decode cX9_renew 12 = .ok (.goto 4, 3) := by decide +kernel
theorem dX9_renew_15 : decode cX9_renew 15 = .ok (.iconst 0, 1) := by decide +kernel
theorem dX9_renew_16 : decode cX9_renew 16 = .ok (.istore_n 3, 1) := by decide +kernel
theorem dX9_renew_17 : decode cX9_renew 17 = .ok (.iload_n 3, 1) := by decide +kernel
theorem dX9_renew_18 : decode cX9_renew 18 = .ok (.ifCond .eq 25, 3) := by decide +kernel
theorem dX9_renew_21 : decode cX9_renew 21 = .ok (.aload_n 0, 1) := by decide +kernel
theorem dX9_renew_22 : decode cX9_renew 22 = .ok (.getfield 34, 3) := by decide +kernel
theorem dX9_renew_25 : decode cX9_renew 25 = .ok (.getfield 151, 3) := by decide +kernel
theorem dX9_renew_28 : decode cX9_renew 28 = .ok (.iload_n 2, 1) := by decide +kernel
theorem dX9_renew_29 : decode cX9_renew 29 = .ok (.aaload, 1) := by decide +kernel
theorem dX9_renew_30 : decode cX9_renew 30 = .ok (.astore 4, 2) := by decide +kernel
theorem dX9_renew_32 : decode cX9_renew 32 = .ok (.aload_n 0, 1) := by decide +kernel
theorem dX9_renew_33 : decode cX9_renew 33 = .ok (.getfield 34, 3) := by decide +kernel
theorem dX9_renew_36 : decode cX9_renew 36 = .ok (.iload_n 2, 1) := by decide +kernel
theorem dX9_renew_37 : decode cX9_renew 37 = .ok (.invokevirtual 154, 3) := by decide +kernel
theorem dX9_renew_40 : decode cX9_renew 40 = .ok (.goto 47, 3) := by decide +kernel
theorem dX9_renew_43 : decode cX9_renew 43 = .ok (.aload_n 0, 1) := by decide +kernel
theorem dX9_renew_44 : decode cX9_renew 44 = .ok (.invokevirtual 157, 3) := by decide +kernel
theorem dX9_renew_47 : decode cX9_renew 47 = .ok (.astore 4, 2) := by decide +kernel
theorem dX9_renew_49 : decode cX9_renew 49 = .ok (.aload 4, 2) := by decide +kernel
theorem dX9_renew_51 : decode cX9_renew 51 = .ok (.iload_n 1, 1) := by decide +kernel
theorem dX9_renew_52 : decode cX9_renew 52 = .ok (.aload_n 0, 1) := by decide +kernel
theorem dX9_renew_53 : decode cX9_renew 53 = .ok (.getfield 17, 3) := by decide +kernel
theorem dX9_renew_56 : decode cX9_renew 56 = .ok (.invokevirtual 161, 3) := by decide +kernel
theorem dX9_renew_59 : decode cX9_renew 59 = .ok (.aload_n 0, 1) := by decide +kernel
theorem dX9_renew_60 : decode cX9_renew 60 = .ok (.aload 4, 2) := by decide +kernel
theorem dX9_renew_62 : decode cX9_renew 62 = .ok (.invokevirtual 165, 3) := by decide +kernel
theorem dX9_renew_65 : decode cX9_renew 65 = .ok (.aload_n 0, 1) := by decide +kernel
theorem dX9_renew_66 : decode cX9_renew 66 = .ok (.getfield 51, 3) := by decide +kernel
theorem dX9_renew_69 : decode cX9_renew 69 = .ok (.aload 4, 2) := by decide +kernel
theorem dX9_renew_71 : decode cX9_renew 71 = .ok (.aload_n 0, 1) := by decide +kernel
theorem dX9_renew_72 : decode cX9_renew 72 = .ok (.getfield 11, 3) := by decide +kernel
theorem dX9_renew_75 : decode cX9_renew 75 = .ok (.invokevirtual 169, 3) := by decide +kernel
theorem dX9_renew_78 : decode cX9_renew 78 = .ok (.aload_n 0, 1) := by decide +kernel
theorem dX9_renew_79 : decode cX9_renew 79 = .ok (.getfield 34, 3) := by decide +kernel
theorem dX9_renew_82 : decode cX9_renew 82 = .ok (.aload 4, 2) := by decide +kernel
theorem dX9_renew_84 : decode cX9_renew 84 = .ok (.invokevirtual 173, 3) := by decide +kernel
theorem dX9_renew_87 : decode cX9_renew 87 = .ok (.iconst 0, 1) := by decide +kernel
theorem dX9_renew_88 : decode cX9_renew 88 = .ok (.istore 5, 2) := by decide +kernel
theorem dX9_renew_90 : decode cX9_renew 90 = .ok (.iload 5, 2) := by decide +kernel
theorem dX9_renew_92 : decode cX9_renew 92 = .ok (.bipush 8, 2) := by decide +kernel
theorem dX9_renew_94 : decode cX9_renew 94 = .ok (.if_icmp .ge 27, 3) := by decide +kernel
theorem dX9_renew_97 : decode cX9_renew 97 = .ok (.iload_n 1, 1) := by decide +kernel
theorem dX9_renew_98 : decode cX9_renew 98 = .ok (.iload 5, 2) := by decide +kernel
theorem dX9_renew_100 : decode cX9_renew 100 = .ok (.invokestatic 109, 3) := by decide +kernel
theorem dX9_renew_103 : decode cX9_renew 103 = .ok (.ifCond .eq 12, 3) := by decide +kernel
theorem dX9_renew_106 : decode cX9_renew 106 = .ok (.aload_n 0, 1) := by decide +kernel
theorem dX9_renew_107 : decode cX9_renew 107 = .ok (.getfield 11, 3) := by decide +kernel
theorem dX9_renew_110 : decode cX9_renew 110 = .ok (.iload 5, 2) := by decide +kernel
theorem dX9_renew_112 : decode cX9_renew 112 = .ok (.aload 4, 2) := by decide +kernel
theorem dX9_renew_114 : decode cX9_renew 114 = .ok (.aastore, 1) := by decide +kernel
theorem dX9_renew_115 : decode cX9_renew 115 = .ok (.iinc 5 1, 3) := by decide +kernel
theorem dX9_renew_118 : decode cX9_renew 118 = .ok (.goto (-28), 3) := by decide +kernel
theorem dX9_renew_121 : decode cX9_renew 121 = .ok (.iload_n 3, 1) := by decide +kernel
theorem dX9_renew_122 : decode cX9_renew 122 = .ok (.ireturn, 1) := by decide +kernel
theorem dX9_placeInStore_0 : decode cX9_placeInStore 0 = .ok (.aload_n 0, 1) := by decide +kernel
theorem dX9_placeInStore_1 : decode cX9_placeInStore 1 = .ok (.getfield 34, 3) := by decide +kernel
theorem dX9_placeInStore_4 : decode cX9_placeInStore 4 = .ok (.getfield 176, 3) := by decide +kernel
theorem dX9_placeInStore_7 : decode cX9_placeInStore 7 = .ok (.iconst 1, 1) := by decide +kernel
theorem dX9_placeInStore_8 : decode cX9_placeInStore 8 = .ok (.isub, 1) := by decide +kernel
theorem dX9_placeInStore_9 : decode cX9_placeInStore 9 = .ok (.istore_n 2, 1) := by decide +kernel
theorem dX9_placeInStore_10 : decode cX9_placeInStore 10 = .ok (.iload_n 2, 1) := by decide +kernel
theorem dX9_placeInStore_11 : decode cX9_placeInStore 11 = .ok (.ifCond .lt 47, 3) := by decide +kernel
theorem dX9_placeInStore_14 : decode cX9_placeInStore 14 = .ok (.aload_n 0, 1) := by decide +kernel
theorem dX9_placeInStore_15 : decode cX9_placeInStore 15 = .ok (.getfield 34, 3) := by decide +kernel
theorem dX9_placeInStore_18 : decode cX9_placeInStore 18 = .ok (.getfield 151, 3) := by decide +kernel
theorem dX9_placeInStore_21 : decode cX9_placeInStore 21 = .ok (.iload_n 2, 1) := by decide +kernel
theorem dX9_placeInStore_22 : decode cX9_placeInStore 22 = .ok (.aaload, 1) := by decide +kernel
theorem dX9_placeInStore_23 : decode cX9_placeInStore 23 = .ok (.astore_n 3, 1) := by decide +kernel
theorem dX9_placeInStore_24 : decode cX9_placeInStore 24 = .ok (.aload_n 3, 1) := by decide +kernel
theorem dX9_placeInStore_25 : decode cX9_placeInStore 25 = .ok (.getfield 113, 3) := by decide +kernel
theorem dX9_placeInStore_28 : decode cX9_placeInStore 28 = .ok (.iload_n 1, 1) := by decide +kernel
theorem dX9_placeInStore_29 : decode cX9_placeInStore 29 = .ok (.if_icmp .ne 23, 3) := by decide +kernel
theorem dX9_placeInStore_32 : decode cX9_placeInStore 32 = .ok (.aload_n 0, 1) := by decide +kernel
theorem dX9_placeInStore_33 : decode cX9_placeInStore 33 = .ok (.aload_n 3, 1) := by decide +kernel
theorem dX9_placeInStore_34 : decode cX9_placeInStore 34 = .ok (.invokevirtual 99, 3) := by decide +kernel
theorem dX9_placeInStore_37 : decode cX9_placeInStore 37 = .ok (.iconst (-1), 1) := by decide +kernel
theorem dX9_placeInStore_38 : decode cX9_placeInStore 38 = .ok (.if_icmp .ne 14, 3) := by decide +kernel
theorem dX9_placeInStore_41 : decode cX9_placeInStore 41 = .ok (.aload_n 0, 1) := by decide +kernel
theorem dX9_placeInStore_42 : decode cX9_placeInStore 42 = .ok (.aload_n 3, 1) := by decide +kernel
theorem dX9_placeInStore_43 : decode cX9_placeInStore 43 = .ok (.invokevirtual 103, 3) := by decide +kernel
theorem dX9_placeInStore_46 : decode cX9_placeInStore 46 = .ok (.iconst (-1), 1) := by decide +kernel
theorem dX9_placeInStore_47 : decode cX9_placeInStore 47 = .ok (.if_icmp .ne 5, 3) := by decide +kernel
theorem dX9_placeInStore_50 : decode cX9_placeInStore 50 = .ok (.iload_n 2, 1) := by decide +kernel
theorem dX9_placeInStore_51 : decode cX9_placeInStore 51 = .ok (.ireturn, 1) := by decide +kernel
theorem dX9_placeInStore_52 : decode cX9_placeInStore 52 = .ok (.iinc 2 (-1), 3) := by decide +kernel
theorem dX9_placeInStore_55 : decode cX9_placeInStore 55 = .ok (.goto (-45), 3) := by decide +kernel
theorem dX9_placeInStore_58 : decode cX9_placeInStore 58 = .ok (.iconst (-1), 1) := by decide +kernel
theorem dX9_placeInStore_59 : decode cX9_placeInStore 59 = .ok (.ireturn, 1) := by decide +kernel
theorem dX9_freeResult_0 : decode cX9_freeResult 0 = .ok (.aload_n 0, 1) := by decide +kernel
theorem dX9_freeResult_1 : decode cX9_freeResult 1 = .ok (.getfield 43, 3) := by decide +kernel
theorem dX9_freeResult_4 : decode cX9_freeResult 4 = .ok (.iconst 0, 1) := by decide +kernel
theorem dX9_freeResult_5 : decode cX9_freeResult 5 = .ok (.aaload, 1) := by decide +kernel
theorem dX9_freeResult_6 : decode cX9_freeResult 6 = .ok (.astore_n 1, 1) := by decide +kernel
theorem dX9_freeResult_7 : decode cX9_freeResult 7 = .ok (.iconst 1, 1) := by decide +kernel
theorem dX9_freeResult_8 : decode cX9_freeResult 8 = .ok (.istore_n 2, 1) := by decide +kernel
theorem dX9_freeResult_9 : decode cX9_freeResult 9 = .ok (.iload_n 2, 1) := by decide +kernel
theorem dX9_freeResult_10 : decode cX9_freeResult 10 = .ok (.aload_n 0, 1) := by decide +kernel
theorem dX9_freeResult_11 : decode cX9_freeResult 11 = .ok (.getfield 43, 3) := by decide +kernel
theorem dX9_freeResult_14 : decode cX9_freeResult 14 = .ok (.arraylength, 1) := by decide +kernel
theorem dX9_freeResult_15 : decode cX9_freeResult 15 = .ok (.if_icmp .ge 24, 3) := by decide +kernel
theorem dX9_freeResult_18 : decode cX9_freeResult 18 = .ok (.aload_n 0, 1) := by decide +kernel
theorem dX9_freeResult_19 : decode cX9_freeResult 19 = .ok (.aload_n 1, 1) := by decide +kernel
theorem dX9_freeResult_20 : decode cX9_freeResult 20 = .ok (.invokevirtual 177, 3) := by decide +kernel
theorem dX9_freeResult_23 : decode cX9_freeResult 23 = .ok (.ifCond .eq 16, 3) := by decide +kernel
theorem dX9_freeResult_26 : decode cX9_freeResult 26 = .ok (.aload_n 0, 1) := by decide +kernel
theorem dX9_freeResult_27 : decode cX9_freeResult 27 = .ok (.getfield 43, 3) := by decide +kernel
theorem dX9_freeResult_30 : decode cX9_freeResult 30 = .ok (.iload_n 2, 1) := by decide +kernel
theorem dX9_freeResult_31 : decode cX9_freeResult 31 = .ok (.aaload, 1) := by decide +kernel
theorem dX9_freeResult_32 : decode cX9_freeResult 32 = .ok (.astore_n 1, 1) := by decide +kernel
theorem dX9_freeResult_33 : decode cX9_freeResult 33 = .ok (.iinc 2 1, 3) := by decide +kernel
theorem dX9_freeResult_36 : decode cX9_freeResult 36 = .ok (.goto (-27), 3) := by decide +kernel
theorem dX9_freeResult_39 : decode cX9_freeResult 39 = .ok (.aload_n 1, 1) := by decide +kernel
theorem dX9_freeResult_40 : decode cX9_freeResult 40 = .ok (.areturn, 1) := by decide +kernel
theorem dX9_isHeld_0 : decode cX9_isHeld 0 = .ok (.iconst 0, 1) := by decide +kernel
theorem dX9_isHeld_1 : decode cX9_isHeld 1 = .ok (.istore_n 2, 1) := by decide +kernel
theorem dX9_isHeld_2 : decode cX9_isHeld 2 = .ok (.iload_n 2, 1) := by decide +kernel
theorem dX9_isHeld_3 : decode cX9_isHeld 3 = .ok (.bipush 8, 2) := by decide +kernel
theorem dX9_isHeld_5 : decode cX9_isHeld 5 = .ok (.if_icmp .ge 21, 3) := by decide +kernel
theorem dX9_isHeld_8 : decode cX9_isHeld 8 = .ok (.aload_n 0, 1) := by decide +kernel
theorem dX9_isHeld_9 : decode cX9_isHeld 9 = .ok (.getfield 11, 3) := by decide +kernel
theorem dX9_isHeld_12 : decode cX9_isHeld 12 = .ok (.iload_n 2, 1) := by decide +kernel
