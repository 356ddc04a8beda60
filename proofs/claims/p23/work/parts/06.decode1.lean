theorem dX0_of_0 : decode cX0_of 0 = .ok (.iload_n 0, 1) := by decide +kernel
theorem dX0_of_1 : decode cX0_of 1 = .ok (.sipush 128, 3) := by decide +kernel
theorem dX0_of_4 : decode cX0_of 4 = .ok (.ior, 1) := by decide +kernel
theorem dX0_of_5 : decode cX0_of 5 = .ok (.iload_n 1, 1) := by decide +kernel
theorem dX0_of_6 : decode cX0_of 6 = .ok (.ifCond .eq 9, 3) := by decide +kernel
theorem dX0_of_9 : decode cX0_of 9 = .ok (.sipush 256, 3) := by decide +kernel
theorem dX0_of_12 : decode cX0_of 12 = .ok (.goto 4, 3) := by decide +kernel
theorem dX0_of_15 : decode cX0_of 15 = .ok (.iconst 0, 1) := by decide +kernel
theorem dX0_of_16 : decode cX0_of 16 = .ok (.ior, 1) := by decide +kernel
theorem dX0_of_17 : decode cX0_of 17 = .ok (.iload_n 2, 1) := by decide +kernel
theorem dX0_of_18 : decode cX0_of 18 = .ok (.ifCond .eq 9, 3) := by decide +kernel
theorem dX0_of_21 : decode cX0_of 21 = .ok (.sipush 512, 3) := by decide +kernel
theorem dX0_of_24 : decode cX0_of 24 = .ok (.goto 4, 3) := by decide +kernel
theorem dX0_of_27 : decode cX0_of 27 = .ok (.iconst 0, 1) := by decide +kernel
theorem dX0_of_28 : decode cX0_of 28 = .ok (.ior, 1) := by decide +kernel
theorem dX0_of_29 : decode cX0_of 29 = .ok (.iload_n 3, 1) := by decide +kernel
theorem dX0_of_30 : decode cX0_of 30 = .ok (.ifCond .eq 9, 3) := by decide +kernel
theorem dX0_of_33 : decode cX0_of 33 = .ok (.sipush 1024, 3) := by decide +kernel
theorem dX0_of_36 : decode cX0_of 36 = .ok (.goto 4, 3) := by decide +kernel
theorem dX0_of_39 : decode cX0_of 39 = .ok (.iconst 0, 1) := by decide +kernel
theorem dX0_of_40 : decode cX0_of 40 = .ok (.ior, 1) := by decide +kernel
theorem dX0_of_41 : decode cX0_of 41 = .ok (.i2l, 1) := by decide +kernel
theorem dX0_of_42 : decode cX0_of 42 = .ok (.iload 4, 2) := by decide +kernel
theorem dX0_of_44 : decode cX0_of 44 = .ok (.i2l, 1) := by decide +kernel
theorem dX0_of_45 : decode cX0_of 45 = .ok (.ldc2_w 9, 3) := by decide +kernel
theorem dX0_of_48 : decode cX0_of 48 = .ok (.land, 1) := by decide +kernel
theorem dX0_of_49 : decode cX0_of 49 = .ok (.bipush 11, 2) := by decide +kernel
theorem dX0_of_51 : decode cX0_of 51 = .ok (.lshl, 1) := by decide +kernel
theorem dX0_of_52 : decode cX0_of 52 = .ok (.lor, 1) := by decide +kernel
theorem dX0_of_53 : decode cX0_of 53 = .ok (.lreturn, 1) := by decide +kernel
theorem dX0_trait_0 : decode cX0_trait 0 = .ok (.iload_n 2, 1) := by decide +kernel
theorem dX0_trait_1 : decode cX0_trait 1 = .ok (.tableswitch 51 2 4 #[27, 35, 43], 27) := by decide +kernel
theorem dX0_trait_28 : decode cX0_trait 28 = .ok (.lload_n 0, 1) := by decide +kernel
theorem dX0_trait_29 : decode cX0_trait 29 = .ok (.bipush 8, 2) := by decide +kernel
theorem dX0_trait_31 : decode cX0_trait 31 = .ok (.lshr, 1) := by decide +kernel
theorem dX0_trait_32 : decode cX0_trait 32 = .ok (.lconst 1, 1) := by decide +kernel
theorem dX0_trait_33 : decode cX0_trait 33 = .ok (.land, 1) := by decide +kernel
theorem dX0_trait_34 : decode cX0_trait 34 = .ok (.l2i, 1) := by decide +kernel
theorem dX0_trait_35 : decode cX0_trait 35 = .ok (.ireturn, 1) := by decide +kernel
theorem dX0_trait_36 : decode cX0_trait 36 = .ok (.lload_n 0, 1) := by decide +kernel
theorem dX0_trait_37 : decode cX0_trait 37 = .ok (.bipush 9, 2) := by decide +kernel
theorem dX0_trait_39 : decode cX0_trait 39 = .ok (.lshr, 1) := by decide +kernel
theorem dX0_trait_40 : decode cX0_trait 40 = .ok (.lconst 1, 1) := by decide +kernel
theorem dX0_trait_41 : decode cX0_trait 41 = .ok (.land, 1) := by decide +kernel
theorem dX0_trait_42 : decode cX0_trait 42 = .ok (.l2i, 1) := by decide +kernel
theorem dX0_trait_43 : decode cX0_trait 43 = .ok (.ireturn, 1) := by decide +kernel
theorem dX0_trait_44 : decode cX0_trait 44 = .ok (.lload_n 0, 1) := by decide +kernel
theorem dX0_trait_45 : decode cX0_trait 45 = .ok (.bipush 10, 2) := by decide +kernel
theorem dX0_trait_47 : decode cX0_trait 47 = .ok (.lshr, 1) := by decide +kernel
theorem dX0_trait_48 : decode cX0_trait 48 = .ok (.lconst 1, 1) := by decide +kernel
theorem dX0_trait_49 : decode cX0_trait 49 = .ok (.land, 1) := by decide +kernel
theorem dX0_trait_50 : decode cX0_trait 50 = .ok (.l2i, 1) := by decide +kernel
theorem dX0_trait_51 : decode cX0_trait 51 = .ok (.ireturn, 1) := by decide +kernel
theorem dX0_trait_52 : decode cX0_trait 52 = .ok (.lload_n 0, 1) := by decide +kernel
theorem dX0_trait_53 : decode cX0_trait 53 = .ok (.bipush 11, 2) := by decide +kernel
theorem dX0_trait_55 : decode cX0_trait 55 = .ok (.lshr, 1) := by decide +kernel
theorem dX0_trait_56 : decode cX0_trait 56 = .ok (.l2i, 1) := by decide +kernel
theorem dX0_trait_57 : decode cX0_trait 57 = .ok (.ireturn, 1) := by decide +kernel
theorem dX1_of_0 : decode cX1_of 0 = .ok (.iconst 1, 1) := by decide +kernel
theorem dX1_of_1 : decode cX1_of 1 = .ok (.iload_n 0, 1) := by decide +kernel
theorem dX1_of_2 : decode cX1_of 2 = .ok (.iconst 1, 1) := by decide +kernel
theorem dX1_of_3 : decode cX1_of 3 = .ok (.ishl, 1) := by decide +kernel
theorem dX1_of_4 : decode cX1_of 4 = .ok (.ior, 1) := by decide +kernel
theorem dX1_of_5 : decode cX1_of 5 = .ok (.iload_n 1, 1) := by decide +kernel
theorem dX1_of_6 : decode cX1_of 6 = .ok (.ifCond .eq 7, 3) := by decide +kernel
theorem dX1_of_9 : decode cX1_of 9 = .ok (.iconst 4, 1) := by decide +kernel
theorem dX1_of_10 : decode cX1_of 10 = .ok (.goto 4, 3) := by decide +kernel
theorem dX1_of_13 : decode cX1_of 13 = .ok (.iconst 0, 1) := by decide +kernel
theorem dX1_of_14 : decode cX1_of 14 = .ok (.ior, 1) := by decide +kernel
theorem dX1_of_15 : decode cX1_of 15 = .ok (.iload_n 2, 1) := by decide +kernel
theorem dX1_of_16 : decode cX1_of 16 = .ok (.bipush 99, 2) := by decide +kernel
theorem dX1_of_18 : decode cX1_of 18 = .ok (.iadd, 1) := by decide +kernel
theorem dX1_of_19 : decode cX1_of 19 = .ok (.iconst 3, 1) := by decide +kernel
theorem dX1_of_20 : decode cX1_of 20 = .ok (.ishl, 1) := by decide +kernel
theorem dX1_of_21 : decode cX1_of 21 = .ok (.ior, 1) := by decide +kernel
theorem dX1_of_22 : decode cX1_of 22 = .ok (.iload_n 3, 1) := by decide +kernel
theorem dX1_of_23 : decode cX1_of 23 = .ok (.iconst 1, 1) := by decide +kernel
theorem dX1_of_24 : decode cX1_of 24 = .ok (.iadd, 1) := by decide +kernel
theorem dX1_of_25 : decode cX1_of 25 = .ok (.bipush 11, 2) := by decide +kernel
theorem dX1_of_27 : decode cX1_of 27 = .ok (.ishl, 1) := by decide +kernel
theorem dX1_of_28 : decode cX1_of 28 = .ok (.ior, 1) := by decide +kernel
theorem dX1_of_29 : decode cX1_of 29 = .ok (.iload 4, 2) := by decide +kernel
theorem dX1_of_31 : decode cX1_of 31 = .ok (.iconst 1, 1) := by decide +kernel
theorem dX1_of_32 : decode cX1_of 32 = .ok (.iadd, 1) := by decide +kernel
theorem dX1_of_33 : decode cX1_of 33 = .ok (.bipush 16, 2) := by decide +kernel
theorem dX1_of_35 : decode cX1_of 35 = .ok (.ishl, 1) := by decide +kernel
theorem dX1_of_36 : decode cX1_of 36 = .ok (.ior, 1) := by decide +kernel
theorem dX1_of_37 : decode cX1_of 37 = .ok (.ireturn, 1) := by decide +kernel
theorem dX1_withNumber_0 : decode cX1_withNumber 0 = .ok (.iload_n 0, 1) := by decide +kernel
theorem dX1_withNumber_1 : decode cX1_withNumber 1 = .ok (.sipush (-2041), 3) := by decide +kernel
theorem dX1_withNumber_4 : decode cX1_withNumber 4 = .ok (.iand, 1) := by decide +kernel
theorem dX1_withNumber_5 : decode cX1_withNumber 5 = .ok (.iload_n 1, 1) := by decide +kernel
theorem dX1_withNumber_6 : decode cX1_withNumber 6 = .ok (.bipush 99, 2) := by decide +kernel
theorem dX1_withNumber_8 : decode cX1_withNumber 8 = .ok (.iadd, 1) := by decide +kernel
theorem dX1_withNumber_9 : decode cX1_withNumber 9 = .ok (.iconst 3, 1) := by decide +kernel
theorem dX1_withNumber_10 : decode cX1_withNumber 10 = .ok (.ishl, 1) := by decide +kernel
theorem dX1_withNumber_11 : decode cX1_withNumber 11 = .ok (.ior, 1) := by decide +kernel
theorem dX1_withNumber_12 : decode cX1_withNumber 12 = .ok (.ireturn, 1) := by decide +kernel
theorem dX1_isProcedure_0 : decode cX1_isProcedure 0 = .ok (.iload_n 0, 1) := by decide +kernel
theorem dX1_isProcedure_1 : decode cX1_isProcedure 1 = .ok (.iconst 1, 1) := by decide +kernel
theorem dX1_isProcedure_2 : decode cX1_isProcedure 2 = .ok (.ishr, 1) := by decide +kernel
theorem dX1_isProcedure_3 : decode cX1_isProcedure 3 = .ok (.iconst 1, 1) := by decide +kernel
theorem dX1_isProcedure_4 : decode cX1_isProcedure 4 = .ok (.iand, 1) := by decide +kernel
theorem dX1_isProcedure_5 : decode cX1_isProcedure 5 = .ok (.iconst 1, 1) := by decide +kernel
theorem dX1_isProcedure_6 : decode cX1_isProcedure 6 = .ok (.if_icmp .ne 7, 3) := by decide +kernel
theorem dX1_isProcedure_9 : decode cX1_isProcedure 9 = .ok (.iconst 1, 1) := by decide +kernel
theorem dX1_isProcedure_10 : decode cX1_isProcedure 10 = .ok (.goto 4, 3) := by decide +kernel
theorem dX1_isProcedure_13 : decode cX1_isProcedure 13 = .ok (.iconst 0, 1) := by decide +kernel
theorem dX1_isProcedure_14 : decode cX1_isProcedure 14 = .ok (.ireturn, 1) := by decide +kernel
theorem dX1_isPublic_0 : decode cX1_isPublic 0 = .ok (.iload_n 0, 1) := by decide +kernel
theorem dX1_isPublic_1 : decode cX1_isPublic 1 = .ok (.iconst 2, 1) := by decide +kernel
theorem dX1_isPublic_2 : decode cX1_isPublic 2 = .ok (.ishr, 1) := by decide +kernel
theorem dX1_isPublic_3 : decode cX1_isPublic 3 = .ok (.iconst 1, 1) := by decide +kernel
theorem dX1_isPublic_4 : decode cX1_isPublic 4 = .ok (.iand, 1) := by decide +kernel
theorem dX1_isPublic_5 : decode cX1_isPublic 5 = .ok (.iconst 1, 1) := by decide +kernel
theorem dX1_isPublic_6 : decode cX1_isPublic 6 = .ok (.if_icmp .ne 7, 3) := by decide +kernel
theorem dX1_isPublic_9 : decode cX1_isPublic 9 = .ok (.iconst 1, 1) := by decide +kernel
theorem dX1_isPublic_10 : decode cX1_isPublic 10 = .ok (.goto 4, 3) := by decide +kernel
theorem dX1_isPublic_13 : decode cX1_isPublic 13 = .ok (.iconst 0, 1) := by decide +kernel
theorem dX1_isPublic_14 : decode cX1_isPublic 14 = .ok (.ireturn, 1) := by decide +kernel
theorem dX1_numberOf_0 : decode cX1_numberOf 0 = .ok (.iload_n 0, 1) := by decide +kernel
theorem dX1_numberOf_1 : decode cX1_numberOf 1 = .ok (.iconst 3, 1) := by decide +kernel
theorem dX1_numberOf_2 : decode cX1_numberOf 2 = .ok (.ishr, 1) := by decide +kernel
theorem dX1_numberOf_3 : decode cX1_numberOf 3 = .ok (.sipush 255, 3) := by decide +kernel
theorem dX1_numberOf_6 : decode cX1_numberOf 6 = .ok (.iand, 1) := by decide +kernel
theorem dX1_numberOf_7 : decode cX1_numberOf 7 = .ok (.bipush 99, 2) := by decide +kernel
theorem dX1_numberOf_9 : decode cX1_numberOf 9 = .ok (.isub, 1) := by decide +kernel
theorem dX1_numberOf_10 : decode cX1_numberOf 10 = .ok (.ireturn, 1) := by decide +kernel
theorem dX1_reference_0 : decode cX1_reference 0 = .ok (.iload_n 0, 1) := by decide +kernel
theorem dX1_reference_1 : decode cX1_reference 1 = .ok (.iload_n 1, 1) := by decide +kernel
theorem dX1_reference_2 : decode cX1_reference 2 = .ok (.ifCond .ne 8, 3) := by decide +kernel
theorem dX1_reference_5 : decode cX1_reference 5 = .ok (.bipush 11, 2) := by decide +kernel
theorem dX1_reference_7 : decode cX1_reference 7 = .ok (.goto 5, 3) := by decide +kernel
theorem dX1_reference_10 : decode cX1_reference 10 = .ok (.bipush 16, 2) := by decide +kernel
theorem dX1_reference_12 : decode cX1_reference 12 = .ok (.ishr, 1) := by decide +kernel
theorem dX1_reference_13 : decode cX1_reference 13 = .ok (.bipush 31, 2) := by decide +kernel
theorem dX1_reference_15 : decode cX1_reference 15 = .ok (.iand, 1) := by decide +kernel
theorem dX1_reference_16 : decode cX1_reference 16 = .ok (.iconst 1, 1) := by decide +kernel
theorem dX1_reference_17 : decode cX1_reference 17 = .ok (.isub, 1) := by decide +kernel
theorem dX1_reference_18 : decode cX1_reference 18 = .ok (.ireturn, 1) := by decide +kernel
theorem dX2_of_0 : decode cX2_of 0 = .ok (.iload_n 0, 1) := by decide +kernel
theorem dX2_of_1 : decode cX2_of 1 = .ok (.iload_n 1, 1) := by decide +kernel
theorem dX2_of_2 : decode cX2_of 2 = .ok (.iconst 1, 1) := by decide +kernel
theorem dX2_of_3 : decode cX2_of 3 = .ok (.iadd, 1) := by decide +kernel
theorem dX2_of_4 : decode cX2_of 4 = .ok (.iconst 3, 1) := by decide +kernel
theorem dX2_of_5 : decode cX2_of 5 = .ok (.ishl, 1) := by decide +kernel
theorem dX2_of_6 : decode cX2_of 6 = .ok (.ior, 1) := by decide +kernel
theorem dX2_of_7 : decode cX2_of 7 = .ok (.iload_n 2, 1) := by decide +kernel
theorem dX2_of_8 : decode cX2_of 8 = .ok (.bipush 8, 2) := by decide +kernel
theorem dX2_of_10 : decode cX2_of 10 = .ok (.ishl, 1) := by decide +kernel
theorem dX2_of_11 : decode cX2_of 11 = .ok (.ior, 1) := by decide +kernel
theorem dX2_of_12 : decode cX2_of 12 = .ok (.iload_n 3, 1) := by decide +kernel
theorem dX2_of_13 : decode cX2_of 13 = .ok (.ifCond .eq 9, 3) := by decide +kernel
theorem dX2_of_16 : decode cX2_of 16 = .ok (.sipush 4096, 3) := by decide +kernel
theorem dX2_of_19 : decode cX2_of 19 = .ok (.goto 4, 3) := by decide +kernel
theorem dX2_of_22 : decode cX2_of 22 = .ok (.iconst 0, 1) := by decide +kernel
theorem dX2_of_23 : decode cX2_of 23 = .ok (.ior, 1) := by decide +kernel
theorem dX2_of_24 : decode cX2_of 24 = .ok (.ireturn, 1) := by decide +kernel
theorem dX2_isOfAll_0 : decode cX2_isOfAll 0 = .ok (.iload_n 0, 1) := by decide +kernel
theorem dX2_isOfAll_1 : decode cX2_isOfAll 1 = .ok (.iconst 3, 1) := by decide +kernel
theorem dX2_isOfAll_2 : decode cX2_isOfAll 2 = .ok (.ishr, 1) := by decide +kernel
theorem dX2_isOfAll_3 : decode cX2_isOfAll 3 = .ok (.bipush 31, 2) := by decide +kernel
theorem dX2_isOfAll_5 : decode cX2_isOfAll 5 = .ok (.iand, 1) := by decide +kernel
theorem dX2_isOfAll_6 : decode cX2_isOfAll 6 = .ok (.ifCond .ne 7, 3) := by decide +kernel
theorem dX2_isOfAll_9 : decode cX2_isOfAll 9 = .ok (.iconst 1, 1) := by decide +kernel
theorem dX2_isOfAll_10 : decode cX2_isOfAll 10 = .ok (.goto 4, 3) := by decide +kernel
theorem dX2_isOfAll_13 : decode cX2_isOfAll 13 = .ok (.iconst 0, 1) := by decide +kernel
theorem dX2_isOfAll_14 : decode cX2_isOfAll 14 = .ok (.ireturn, 1) := by decide +kernel
theorem dX2_isAgain_0 : decode cX2_isAgain 0 = .ok (.iload_n 0, 1) := by decide +kernel
theorem dX2_isAgain_1 : decode cX2_isAgain 1 = .ok (.bipush 12, 2) := by decide +kernel
theorem dX2_isAgain_3 : decode cX2_isAgain 3 = .ok (.ishr, 1) := by decide +kernel
theorem dX2_isAgain_4 : decode cX2_isAgain 4 = .ok (.iconst 1, 1) := by decide +kernel
theorem dX2_isAgain_5 : decode cX2_isAgain 5 = .ok (.iand, 1) := by decide +kernel
theorem dX2_isAgain_6 : decode cX2_isAgain 6 = .ok (.iconst 1, 1) := by decide +kernel
theorem dX2_isAgain_7 : decode cX2_isAgain 7 = .ok (.if_icmp .ne 7, 3) := by decide +kernel
theorem dX2_isAgain_10 : decode cX2_isAgain 10 = .ok (.iconst 1, 1) := by decide +kernel
theorem dX2_isAgain_11 : decode cX2_isAgain 11 = .ok (.goto 4, 3) := by decide +kernel
theorem dX2_isAgain_14 : decode cX2_isAgain 14 = .ok (.iconst 0, 1) := by decide +kernel
theorem dX2_isAgain_15 : decode cX2_isAgain 15 = .ok (.ireturn, 1) := by decide +kernel
theorem dX2_from_0 : decode cX2_from 0 = .ok (.iload_n 0, 1) := by decide +kernel
theorem dX2_from_1 : decode cX2_from 1 = .ok (.bipush 7, 2) := by decide +kernel
theorem dX2_from_3 : decode cX2_from 3 = .ok (.iand, 1) := by decide +kernel
theorem dX2_from_4 : decode cX2_from 4 = .ok (.ireturn, 1) := by decide +kernel
theorem dX2_under_0 : decode cX2_under 0 = .ok (.iload_n 0, 1) := by decide +kernel
theorem dX2_under_1 : decode cX2_under 1 = .ok (.bipush 8, 2) := by decide +kernel
theorem dX2_under_3 : decode cX2_under 3 = .ok (.ishr, 1) := by decide +kernel
theorem dX2_under_4 : decode cX2_under 4 = .ok (.bipush 15, 2) := by decide +kernel
theorem dX2_under_6 : decode cX2_under 6 = .ok (.iand, 1) := by decide +kernel
theorem dX2_under_7 : decode cX2_under 7 = .ok (.ireturn, 1) := by decide +kernel
theorem dX2_source_0 : decode cX2_source 0 = .ok (.iload_n 0, 1) := by decide +kernel
theorem dX2_source_1 : decode cX2_source 1 = .ok (.invokestatic 9, 3) := by decide +kernel
theorem dX2_source_4 : decode cX2_source 4 = .ok (.bipush 16, 2) := by decide +kernel
theorem dX2_source_6 : decode cX2_source 6 = .ok (.imul, 1) := by decide +kernel
theorem dX2_source_7 : decode cX2_source 7 = .ok (.iload_n 0, 1) := by decide +kernel
theorem dX2_source_8 : decode cX2_source 8 = .ok (.iconst 3, 1) := by decide +kernel
theorem dX2_source_9 : decode cX2_source 9 = .ok (.ishr, 1) := by decide +kernel
theorem dX2_source_10 : decode cX2_source 10 = .ok (.bipush 31, 2) := by decide +kernel
theorem dX2_source_12 : decode cX2_source 12 = .ok (.iand, 1) := by decide +kernel
theorem dX2_source_13 : decode cX2_source 13 = .ok (.iadd, 1) := by decide +kernel
theorem dX2_source_14 : decode cX2_source 14 = .ok (.iconst 1, 1) := by decide +kernel
theorem dX2_source_15 : decode cX2_source 15 = .ok (.isub, 1) := by decide +kernel
theorem dX2_source_16 : decode cX2_source 16 = .ok (.ireturn, 1) := by decide +kernel
theorem dX3_init_0 : decode cX3_init 0 = .ok (.aload_n 0, 1) := by decide +kernel
theorem dX3_init_1 : decode cX3_init 1 = .ok (.invokespecial 3, 3) := by decide +kernel
theorem dX3_init_4 : decode cX3_init 4 = .ok (.aload_n 0, 1) := by decide +kernel
theorem dX3_init_5 : decode cX3_init 5 = .ok (.bipush 8, 2) := by decide +kernel
theorem dX3_init_7 : decode cX3_init 7 = .ok (.anewarray 9, 3) := by decide +kernel
theorem dX3_init_10 : decode cX3_init 10 = .ok (.putfield 11, 3) := by decide +kernel
theorem dX3_init_13 : decode cX3_init 13 = .ok (.aload_n 0, 1) := by decide +kernel
theorem dX3_init_14 : decode cX3_init 14 = .ok (.sipush 128, 3) := by decide +kernel
theorem dX3_init_17 : decode cX3_init 17 = .ok (.newarray .int, 2) := by decide +kernel
theorem dX3_init_19 : decode cX3_init 19 = .ok (.putfield 17, 3) := by decide +kernel
theorem dX3_init_22 : decode cX3_init 22 = .ok (.aload_n 0, 1) := by decide +kernel
theorem dX3_init_23 : decode cX3_init 23 = .ok (.sipush 256, 3) := by decide +kernel
theorem dX3_init_26 : decode cX3_init 26 = .ok (.newarray .int, 2) := by decide +kernel
theorem dX3_init_28 : decode cX3_init 28 = .ok (.putfield 21, 3) := by decide +kernel
theorem dX3_init_31 : decode cX3_init 31 = .ok (.aload_n 0, 1) := by decide +kernel
theorem dX3_init_32 : decode cX3_init 32 = .ok (.sipush 128, 3) := by decide +kernel
theorem dX3_init_35 : decode cX3_init 35 = .ok (.newarray .boolean, 2) := by decide +kernel
theorem dX3_init_37 : decode cX3_init 37 = .ok (.putfield 24, 3) := by decide +kernel
theorem dX3_init_40 : decode cX3_init 40 = .ok (.aload_n 0, 1) := by decide +kernel
theorem dX3_init_41 : decode cX3_init 41 = .ok (.sipush 128, 3) := by decide +kernel
theorem dX3_init_44 : decode cX3_init 44 = .ok (.newarray .int, 2) := by decide +kernel
theorem dX3_init_46 : decode cX3_init 46 = .ok (.putfield 28, 3) := by decide +kernel
theorem dX3_init_49 : decode cX3_init 49 = .ok (.aload_n 0, 1) := by decide +kernel
theorem dX3_init_50 : decode cX3_init 50 = .ok (.sipush 128, 3) := by decide +kernel
theorem dX3_init_53 : decode cX3_init 53 = .ok (.newarray .boolean, 2) := by decide +kernel
theorem dX3_init_55 : decode cX3_init 55 = .ok (.putfield 31, 3) := by decide +kernel
theorem dX3_init_58 : decode cX3_init 58 = .ok (.aload_n 0, 1) := by decide +kernel
theorem dX3_init_59 : decode cX3_init 59 = .ok (.aload_n 1, 1) := by decide +kernel
theorem dX3_init_60 : decode cX3_init 60 = .ok (.putfield 34, 3) := by decide +kernel
theorem dX3_init_63 : decode cX3_init 63 = .ok (.return_, 1) := by decide +kernel
theorem dX3_makeStates_0 : decode cX3_makeStates 0 = .ok (.iconst 0, 1) := by decide +kernel
theorem dX3_makeStates_1 : decode cX3_makeStates 1 = .ok (.istore_n 3, 1) := by decide +kernel
theorem dX3_makeStates_2 : decode cX3_makeStates 2 = .ok (.iload_n 3, 1) := by decide +kernel
theorem dX3_makeStates_3 : decode cX3_makeStates 3 = .ok (.bipush 8, 2) := by decide +kernel
theorem dX3_makeStates_5 : decode cX3_makeStates 5 = .ok (.if_icmp .ge 33, 3) := by decide +kernel
theorem dX3_makeStates_8 : decode cX3_makeStates 8 = .ok (.aload_n 0, 1) := by decide +kernel
theorem dX3_makeStates_9 : decode cX3_makeStates 9 = .ok (.getfield 11, 3) := by decide +kernel
theorem dX3_makeStates_12 : decode cX3_makeStates 12 = .ok (.iload_n 3, 1) := by decide +kernel
theorem dX3_makeStates_13 : decode cX3_makeStates 13 = .ok (.aload_n 1, 1) := by decide +kernel
theorem dX3_makeStates_14 : decode cX3_makeStates 14 = .ok (.getfield 38, 3) := by decide +kernel
theorem dX3_makeStates_17 : decode cX3_makeStates 17 = .ok (.iload_n 3, 1) := by decide +kernel
theorem dX3_makeStates_18 : decode cX3_makeStates 18 = .ok (.invokestatic 42, 3) := by decide +kernel
theorem dX3_makeStates_21 : decode cX3_makeStates 21 = .ok (.ifCond .eq 7, 3) := by decide +kernel
theorem dX3_makeStates_24 : decode cX3_makeStates 24 = .ok (.aload_n 1, 1) := by decide +kernel
theorem dX3_makeStates_25 : decode cX3_makeStates 25 = .ok (.goto 6, 3) := by decide +kernel
theorem dX3_makeStates_28 : decode cX3_makeStates 28 = .ok (.aload_n 2, 1) := by decide +kernel
theorem dX3_makeStates_29 : decode cX3_makeStates 29 = .ok (.iload_n 3, 1) := by decide +kernel
theorem dX3_makeStates_30 : decode cX3_makeStates 30 = .ok (.aaload, 1) := by decide +kernel
theorem dX3_makeStates_31 : decode cX3_makeStates 31 = .ok (.aastore, 1) := by decide +kernel
theorem dX3_makeStates_32 : decode cX3_makeStates 32 = .ok (.iinc 3 1, 3) := by decide +kernel
theorem dX3_makeStates_35 : decode cX3_makeStates 35 = .ok (.goto (-33), 3) := by decide +kernel
theorem dX3_makeStates_38 : decode cX3_makeStates 38 = .ok (.aload_n 0, 1) := by decide +kernel
theorem dX3_makeStates_39 : decode cX3_makeStates 39 = .ok (.aload_n 1, 1) := by decide +kernel
theorem dX3_makeStates_40 : decode cX3_makeStates 40 = .ok (.invokevirtual 48, 3) := by decide +kernel
theorem dX3_makeStates_43 : decode cX3_makeStates 43 = .ok (.aload_n 0, 1) := by decide +kernel
theorem dX3_makeStates_44 : decode cX3_makeStates 44 = .ok (.aload_n 1, 1) := by decide +kernel
theorem dX3_makeStates_45 : decode cX3_makeStates 45 = .ok (.invokevirtual 52, 3) := by decide +kernel
theorem dX3_makeStates_48 : decode cX3_makeStates 48 = .ok (.iconst 0, 1) := by decide +kernel
theorem dX3_makeStates_49 : decode cX3_makeStates 49 = .ok (.istore_n 3, 1) := by decide +kernel
theorem dX3_makeStates_50 : decode cX3_makeStates 50 = .ok (.iload_n 3, 1) := by decide +kernel
theorem dX3_makeStates_51 : decode cX3_makeStates 51 = .ok (.aload_n 0, 1) := by decide +kernel
theorem dX3_makeStates_52 : decode cX3_makeStates 52 = .ok (.getfield 55, 3) := by decide +kernel
theorem dX3_makeStates_55 : decode cX3_makeStates 55 = .ok (.if_icmp .ge 48, 3) := by decide +kernel
theorem dX3_makeStates_58 : decode cX3_makeStates 58 = .ok (.aload_n 0, 1) := by decide +kernel
theorem dX3_makeStates_59 : decode cX3_makeStates 59 = .ok (.getfield 24, 3) := by decide +kernel
theorem dX3_makeStates_62 : decode cX3_makeStates 62 = .ok (.aload_n 0, 1) := by decide +kernel
theorem dX3_makeStates_63 : decode cX3_makeStates 63 = .ok (.getfield 17, 3) := by decide +kernel
theorem dX3_makeStates_66 : decode cX3_makeStates 66 = .ok (.iload_n 3, 1) := by decide +kernel
theorem dX3_makeStates_67 : decode cX3_makeStates 67 = .ok (.iaload, 1) := by decide +kernel
theorem dX3_makeStates_68 : decode cX3_makeStates 68 = .ok (.baload, 1) := by decide +kernel
theorem dX3_makeStates_69 : decode cX3_makeStates 69 = .ok (.ifCond .eq 28, 3) := by decide +kernel
theorem dX3_makeStates_72 : decode cX3_makeStates 72 = .ok (.aload_n 0, 1) := by decide +kernel
theorem dX3_makeStates_73 : decode cX3_makeStates 73 = .ok (.aload_n 0, 1) := by decide +kernel
theorem dX3_makeStates_74 : decode cX3_makeStates 74 = .ok (.getfield 17, 3) := by decide +kernel
theorem dX3_makeStates_77 : decode cX3_makeStates 77 = .ok (.iload_n 3, 1) := by decide +kernel
theorem dX3_makeStates_78 : decode cX3_makeStates 78 = .ok (.iaload, 1) := by decide +kernel
theorem dX3_makeStates_79 : decode cX3_makeStates 79 = .ok (.invokevirtual 58, 3) := by decide +kernel
theorem dX3_makeStates_82 : decode cX3_makeStates 82 = .ok (.ifCond .eq 15, 3) := by decide +kernel
theorem dX3_makeStates_85 : decode cX3_makeStates 85 = .ok (.aload_n 1, 1) := by decide +kernel
theorem dX3_makeStates_86 : decode cX3_makeStates 86 = .ok (.getfield 62, 3) := by decide +kernel
theorem dX3_makeStates_89 : decode cX3_makeStates 89 = .ok (.aload_n 0, 1) := by decide +kernel
theorem dX3_makeStates_90 : decode cX3_makeStates 90 = .ok (.getfield 17, 3) := by decide +kernel
theorem dX3_makeStates_93 : decode cX3_makeStates 93 = .ok (.iload_n 3, 1) := by decide +kernel
theorem dX3_makeStates_94 : decode cX3_makeStates 94 = .ok (.iaload, 1) := by decide +kernel
theorem dX3_makeStates_95 : decode cX3_makeStates 95 = .ok (.iconst 4, 1) := by decide +kernel
theorem dX3_makeStates_96 : decode cX3_makeStates 96 = .ok (.iastore, 1) := by decide +kernel
theorem dX3_makeStates_97 : decode cX3_makeStates 97 = .ok (.iinc 3 1, 3) := by decide +kernel
theorem dX3_makeStates_100 : decode cX3_makeStates 100 = .ok (.goto (-50), 3) := by decide +kernel
theorem dX3_makeStates_103 : decode cX3_makeStates 103 = .ok (.aload_n 0, 1) := by decide +kernel
theorem dX3_makeStates_104 : decode cX3_makeStates 104 = .ok (.aload_n 1, 1) := by decide +kernel
theorem dX3_makeStates_105 : decode cX3_makeStates 105 = .ok (.invokevirtual 65, 3) := by decide +kernel
theorem dX3_makeStates_108 : decode cX3_makeStates 108 = .ok (.aload_n 0, 1) := by decide +kernel
theorem dX3_makeStates_109 : decode cX3_makeStates 109 = .ok (.aload_n 1, 1) := by decide +kernel
theorem dX3_makeStates_110 : decode cX3_makeStates 110 = .ok (.invokevirtual 68, 3) := by decide +kernel
theorem dX3_makeStates_113 : decode cX3_makeStates 113 = .ok (.aload_n 0, 1) := by decide +kernel
theorem dX3_makeStates_114 : decode cX3_makeStates 114 = .ok (.aload_n 1, 1) := by decide +kernel
theorem dX3_makeStates_115 : decode cX3_makeStates 115 = .ok (.invokevirtual 71, 3) := by decide +kernel
theorem dX3_makeStates_118 : decode cX3_makeStates 118 = .ok (.aload_n 0, 1) := by decide +kernel
theorem dX3_makeStates_119 : decode cX3_makeStates 119 = .ok (.aload_n 1, 1) := by decide +kernel
theorem dX3_makeStates_120 : decode cX3_makeStates 120 = .ok (.invokevirtual 74, 3) := by decide +kernel
theorem dX3_makeStates_123 : decode cX3_makeStates 123 = .ok (.return_, 1) := by decide +kernel
theorem dX3_findMembers_0 : decode cX3_findMembers 0 = .ok (.aload_n 0, 1) := by decide +kernel
theorem dX3_findMembers_1 : decode cX3_findMembers 1 = .ok (.iconst 0, 1) := by decide +kernel
theorem dX3_findMembers_2 : decode cX3_findMembers 2 = .ok (.putfield 55, 3) := by decide +kernel
theorem dX3_findMembers_5 : decode cX3_findMembers 5 = .ok (.iconst 0, 1) := by decide +kernel
theorem dX3_findMembers_6 : decode cX3_findMembers 6 = .ok (.istore_n 2, 1) := by decide +kernel
theorem dX3_findMembers_7 : decode cX3_findMembers 7 = .ok (.iload_n 2, 1) := by decide +kernel
theorem dX3_findMembers_8 : decode cX3_findMembers 8 = .ok (.sipush 128, 3) := by decide +kernel
theorem dX3_findMembers_11 : decode cX3_findMembers 11 = .ok (.if_icmp .ge 112, 3) := by decide +kernel
theorem dX3_findMembers_14 : decode cX3_findMembers 14 = .ok (.aload_n 1, 1) := by decide +kernel
theorem dX3_findMembers_15 : decode cX3_findMembers 15 = .ok (.getfield 38, 3) := by decide +kernel
theorem dX3_findMembers_18 : decode cX3_findMembers 18 = .ok (.iload_n 2, 1) := by decide +kernel
theorem dX3_findMembers_19 : decode cX3_findMembers 19 = .ok (.bipush 16, 2) := by decide +kernel
theorem dX3_findMembers_21 : decode cX3_findMembers 21 = .ok (.idiv, 1) := by decide +kernel
theorem dX3_findMembers_22 : decode cX3_findMembers 22 = .ok (.invokestatic 42, 3) := by decide +kernel
theorem dX3_findMembers_25 : decode cX3_findMembers 25 = .ok (.ifCond .eq 92, 3) := by decide +kernel
theorem dX3_findMembers_28 : decode cX3_findMembers 28 = .ok (.aload_n 1, 1) := by decide +kernel
theorem dX3_findMembers_29 : decode cX3_findMembers 29 = .ok (.getfield 77, 3) := by decide +kernel
theorem dX3_findMembers_32 : decode cX3_findMembers 32 = .ok (.iload_n 2, 1) := by decide +kernel
theorem dX3_findMembers_33 : decode cX3_findMembers 33 = .ok (.invokevirtual 81, 3) := by decide +kernel
theorem dX3_findMembers_36 : decode cX3_findMembers 36 = .ok (.ifCond .eq 81, 3) := by decide +kernel
theorem dX3_findMembers_39 : decode cX3_findMembers 39 = .ok (.aload_n 0, 1) := by decide +kernel
theorem dX3_findMembers_40 : decode cX3_findMembers 40 = .ok (.getfield 17, 3) := by decide +kernel
theorem dX3_findMembers_43 : decode cX3_findMembers 43 = .ok (.aload_n 0, 1) := by decide +kernel
theorem dX3_findMembers_44 : decode cX3_findMembers 44 = .ok (.getfield 55, 3) := by decide +kernel
theorem dX3_findMembers_47 : decode cX3_findMembers 47 = .ok (.iload_n 2, 1) := by decide +kernel
theorem dX3_findMembers_48 : decode cX3_findMembers 48 = .ok (.iastore, 1) := by decide +kernel
theorem dX3_findMembers_49 : decode cX3_findMembers 49 = .ok (.aload_n 0, 1) := by decide +kernel
theorem dX3_findMembers_50 : decode cX3_findMembers 50 = .ok (.dup, 1) := by decide +kernel
theorem dX3_findMembers_51 : decode cX3_findMembers 51 = .ok (.getfield 55, 3) := by decide +kernel
theorem dX3_findMembers_54 : decode cX3_findMembers 54 = .ok (.iconst 1, 1) := by decide +kernel
theorem dX3_findMembers_55 : decode cX3_findMembers 55 = .ok (.iadd, 1) := by decide +kernel
theorem dX3_findMembers_56 : decode cX3_findMembers 56 = .ok (.putfield 55, 3) := by decide +kernel
theorem dX3_findMembers_59 : decode cX3_findMembers 59 = .ok (.aload_n 1, 1) := by decide +kernel
theorem dX3_findMembers_60 : decode cX3_findMembers 60 = .ok (.getfield 77, 3) := by decide +kernel
theorem dX3_findMembers_63 : decode cX3_findMembers 63 = .ok (.getfield 86, 3) := by decide +kernel
theorem dX3_findMembers_66 : decode cX3_findMembers 66 = .ok (.iload_n 2, 1) := by decide +kernel
theorem dX3_findMembers_67 : decode cX3_findMembers 67 = .ok (.iaload, 1) := by decide +kernel
theorem dX3_findMembers_68 : decode cX3_findMembers 68 = .ok (.istore_n 3, 1) := by decide +kernel
theorem dX3_findMembers_69 : decode cX3_findMembers 69 = .ok (.aload_n 1, 1) := by decide +kernel
theorem dX3_findMembers_70 : decode cX3_findMembers 70 = .ok (.getfield 89, 3) := by decide +kernel
theorem dX3_findMembers_73 : decode cX3_findMembers 73 = .ok (.iload_n 2, 1) := by decide +kernel
theorem dX3_findMembers_74 : decode cX3_findMembers 74 = .ok (.iload_n 3, 1) := by decide +kernel
theorem dX3_findMembers_75 : decode cX3_findMembers 75 = .ok (.invokestatic 92, 3) := by decide +kernel
theorem dX3_findMembers_78 : decode cX3_findMembers 78 = .ok (.bastore, 1) := by decide +kernel
theorem dX3_findMembers_79 : decode cX3_findMembers 79 = .ok (.aload_n 0, 1) := by decide +kernel
theorem dX3_findMembers_80 : decode cX3_findMembers 80 = .ok (.getfield 21, 3) := by decide +kernel
theorem dX3_findMembers_83 : decode cX3_findMembers 83 = .ok (.iconst 2, 1) := by decide +kernel
theorem dX3_findMembers_84 : decode cX3_findMembers 84 = .ok (.iload_n 2, 1) := by decide +kernel
theorem dX3_findMembers_85 : decode cX3_findMembers 85 = .ok (.imul, 1) := by decide +kernel
theorem dX3_findMembers_86 : decode cX3_findMembers 86 = .ok (.aload_n 0, 1) := by decide +kernel
theorem dX3_findMembers_87 : decode cX3_findMembers 87 = .ok (.iload_n 2, 1) := by decide +kernel
theorem dX3_findMembers_88 : decode cX3_findMembers 88 = .ok (.iload_n 3, 1) := by decide +kernel
theorem dX3_findMembers_89 : decode cX3_findMembers 89 = .ok (.iconst 0, 1) := by decide +kernel
theorem dX3_findMembers_90 : decode cX3_findMembers 90 = .ok (.invokestatic 96, 3) := by decide +kernel
theorem dX3_findMembers_93 : decode cX3_findMembers 93 = .ok (.invokevirtual 100, 3) := by decide +kernel
theorem dX3_findMembers_96 : decode cX3_findMembers 96 = .ok (.iastore, 1) := by decide +kernel
theorem dX3_findMembers_97 : decode cX3_findMembers 97 = .ok (.aload_n 0, 1) := by decide +kernel
theorem dX3_findMembers_98 : decode cX3_findMembers 98 = .ok (.getfield 21, 3) := by decide +kernel
theorem dX3_findMembers_101 : decode cX3_findMembers 101 = .ok (.iconst 2, 1) := by decide +kernel
theorem dX3_findMembers_102 : decode cX3_findMembers 102 = .ok (.iload_n 2, 1) := by decide +kernel
theorem dX3_findMembers_103 : decode cX3_findMembers 103 = .ok (.imul, 1) := by decide +kernel
theorem dX3_findMembers_104 : decode cX3_findMembers 104 = .ok (.iconst 1, 1) := by decide +kernel
theorem dX3_findMembers_105 : decode cX3_findMembers 105 = .ok (.iadd, 1) := by decide +kernel
theorem dX3_findMembers_106 : decode cX3_findMembers 106 = .ok (.aload_n 0, 1) := by decide +kernel
theorem dX3_findMembers_107 : decode cX3_findMembers 107 = .ok (.iload_n 2, 1) := by decide +kernel
theorem dX3_findMembers_108 : decode cX3_findMembers 108 = .ok (.iload_n 3, 1) := by decide +kernel
theorem dX3_findMembers_109 : decode cX3_findMembers 109 = .ok (.iconst 1, 1) := by decide +kernel
theorem dX3_findMembers_110 : decode cX3_findMembers 110 = .ok (.invokestatic 96, 3) := by decide +kernel
theorem dX3_findMembers_113 : decode cX3_findMembers 113 = .ok (.invokevirtual 100, 3) := by decide +kernel
theorem dX3_findMembers_116 : decode cX3_findMembers 116 = .ok (.iastore, 1) := by decide +kernel
theorem dX3_findMembers_117 : decode cX3_findMembers 117 = .ok (.iinc 2 1, 3) := by decide +kernel
theorem dX3_findMembers_120 : decode cX3_findMembers 120 = .ok (.goto (-113), 3) := by decide +kernel
theorem dX3_findMembers_123 : decode cX3_findMembers 123 = .ok (.return_, 1) := by decide +kernel
theorem dX3_targetOf_0 : decode cX3_targetOf 0 = .ok (.iload_n 2, 1) := by decide +kernel
theorem dX3_targetOf_1 : decode cX3_targetOf 1 = .ok (.iconst (-1), 1) := by decide +kernel
theorem dX3_targetOf_2 : decode cX3_targetOf 2 = .ok (.if_icmp .ne 8, 3) := by decide +kernel
theorem dX3_targetOf_5 : decode cX3_targetOf 5 = .ok (.bipush (-3), 2) := by decide +kernel
theorem dX3_targetOf_7 : decode cX3_targetOf 7 = .ok (.goto 20, 3) := by decide +kernel
theorem dX3_targetOf_10 : decode cX3_targetOf 10 = .ok (.aload_n 0, 1) := by decide +kernel
theorem dX3_targetOf_11 : decode cX3_targetOf 11 = .ok (.getfield 34, 3) := by decide +kernel
theorem dX3_targetOf_14 : decode cX3_targetOf 14 = .ok (.getfield 103, 3) := by decide +kernel
theorem dX3_targetOf_17 : decode cX3_targetOf 17 = .ok (.iload_n 1, 1) := by decide +kernel
theorem dX3_targetOf_18 : decode cX3_targetOf 18 = .ok (.bipush 16, 2) := by decide +kernel
theorem dX3_targetOf_20 : decode cX3_targetOf 20 = .ok (.idiv, 1) := by decide +kernel
theorem dX3_targetOf_21 : decode cX3_targetOf 21 = .ok (.bipush 16, 2) := by decide +kernel
theorem dX3_targetOf_23 : decode cX3_targetOf 23 = .ok (.imul, 1) := by decide +kernel
theorem dX3_targetOf_24 : decode cX3_targetOf 24 = .ok (.iload_n 2, 1) := by decide +kernel
theorem dX3_targetOf_25 : decode cX3_targetOf 25 = .ok (.iadd, 1) := by decide +kernel
theorem dX3_targetOf_26 : decode cX3_targetOf 26 = .ok (.iaload, 1) := by decide +kernel
theorem dX3_targetOf_27 : decode cX3_targetOf 27 = .ok (.ireturn, 1) := by decide +kernel
theorem dX3_findDirectFaults_0 : decode cX3_findDirectFaults 0 = .ok (.aload_n 0, 1) := by decide +kernel
theorem dX3_findDirectFaults_1 : decode cX3_findDirectFaults 1 = .ok (.getfield 24, 3) := by decide +kernel
theorem dX3_findDirectFaults_4 : decode cX3_findDirectFaults 4 = .ok (.invokestatic 108, 3) := by decide +kernel
theorem dX3_findDirectFaults_7 : decode cX3_findDirectFaults 7 = .ok (.iconst 0, 1) := by decide +kernel
theorem dX3_findDirectFaults_8 : decode cX3_findDirectFaults 8 = .ok (.istore_n 2, 1) := by decide +kernel
theorem dX3_findDirectFaults_9 : decode cX3_findDirectFaults 9 = .ok (.iload_n 2, 1) := by decide +kernel
theorem dX3_findDirectFaults_10 : decode cX3_findDirectFaults 10 = .ok (.aload_n 0, 1) := by decide +kernel
theorem dX3_findDirectFaults_11 : decode cX3_findDirectFaults 11 = .ok (.getfield 55, 3) := by decide +kernel
theorem dX3_findDirectFaults_14 : decode cX3_findDirectFaults 14 = .ok (.if_icmp .ge 105, 3) := by decide +kernel
theorem dX3_findDirectFaults_17 : decode cX3_findDirectFaults 17 = .ok (.aload_n 0, 1) := by decide +kernel
theorem dX3_findDirectFaults_18 : decode cX3_findDirectFaults 18 = .ok (.getfield 17, 3) := by decide +kernel
theorem dX3_findDirectFaults_21 : decode cX3_findDirectFaults 21 = .ok (.iload_n 2, 1) := by decide +kernel
theorem dX3_findDirectFaults_22 : decode cX3_findDirectFaults 22 = .ok (.iaload, 1) := by decide +kernel
theorem dX3_findDirectFaults_23 : decode cX3_findDirectFaults 23 = .ok (.istore_n 3, 1) := by decide +kernel
theorem dX3_findDirectFaults_24 : decode cX3_findDirectFaults 24 = .ok (.aload_n 1, 1) := by decide +kernel
theorem dX3_findDirectFaults_25 : decode cX3_findDirectFaults 25 = .ok (.getfield 89, 3) := by decide +kernel
theorem dX3_findDirectFaults_28 : decode cX3_findDirectFaults 28 = .ok (.iload_n 3, 1) := by decide +kernel
theorem dX3_findDirectFaults_29 : decode cX3_findDirectFaults 29 = .ok (.baload, 1) := by decide +kernel
theorem dX3_findDirectFaults_30 : decode cX3_findDirectFaults 30 = .ok (.ifCond .ne 7, 3) := by decide +kernel
theorem dX3_findDirectFaults_33 : decode cX3_findDirectFaults 33 = .ok (.iconst 1, 1) := by decide +kernel
theorem dX3_findDirectFaults_34 : decode cX3_findDirectFaults 34 = .ok (.goto 4, 3) := by decide +kernel
theorem dX3_findDirectFaults_37 : decode cX3_findDirectFaults 37 = .ok (.iconst 0, 1) := by decide +kernel
theorem dX3_findDirectFaults_38 : decode cX3_findDirectFaults 38 = .ok (.istore 4, 2) := by decide +kernel
theorem dX3_findDirectFaults_40 : decode cX3_findDirectFaults 40 = .ok (.aload_n 0, 1) := by decide +kernel
theorem dX3_findDirectFaults_41 : decode cX3_findDirectFaults 41 = .ok (.aload_n 0, 1) := by decide +kernel
theorem dX3_findDirectFaults_42 : decode cX3_findDirectFaults 42 = .ok (.getfield 21, 3) := by decide +kernel
theorem dX3_findDirectFaults_45 : decode cX3_findDirectFaults 45 = .ok (.iconst 2, 1) := by decide +kernel
theorem dX3_findDirectFaults_46 : decode cX3_findDirectFaults 46 = .ok (.iload_n 3, 1) := by decide +kernel
theorem dX3_findDirectFaults_47 : decode cX3_findDirectFaults 47 = .ok (.imul, 1) := by decide +kernel
theorem dX3_findDirectFaults_48 : decode cX3_findDirectFaults 48 = .ok (.iaload, 1) := by decide +kernel
theorem dX3_findDirectFaults_49 : decode cX3_findDirectFaults 49 = .ok (.iload 4, 2) := by decide +kernel
theorem dX3_findDirectFaults_51 : decode cX3_findDirectFaults 51 = .ok (.invokevirtual 112, 3) := by decide +kernel
theorem dX3_findDirectFaults_54 : decode cX3_findDirectFaults 54 = .ok (.istore 5, 2) := by decide +kernel
theorem dX3_findDirectFaults_56 : decode cX3_findDirectFaults 56 = .ok (.iload 5, 2) := by decide +kernel
theorem dX3_findDirectFaults_58 : decode cX3_findDirectFaults 58 = .ok (.ifCond .eq 8, 3) := by decide +kernel
theorem dX3_findDirectFaults_61 : decode cX3_findDirectFaults 61 = .ok (.iload 5, 2) := by decide +kernel
theorem dX3_findDirectFaults_63 : decode cX3_findDirectFaults 63 = .ok (.goto 19, 3) := by decide +kernel
theorem dX3_findDirectFaults_66 : decode cX3_findDirectFaults 66 = .ok (.aload_n 0, 1) := by decide +kernel
theorem dX3_findDirectFaults_67 : decode cX3_findDirectFaults 67 = .ok (.aload_n 0, 1) := by decide +kernel
theorem dX3_findDirectFaults_68 : decode cX3_findDirectFaults 68 = .ok (.getfield 21, 3) := by decide +kernel
theorem dX3_findDirectFaults_71 : decode cX3_findDirectFaults 71 = .ok (.iconst 2, 1) := by decide +kernel
theorem dX3_findDirectFaults_72 : decode cX3_findDirectFaults 72 = .ok (.iload_n 3, 1) := by decide +kernel
theorem dX3_findDirectFaults_73 : decode cX3_findDirectFaults 73 = .ok (.imul, 1) := by decide +kernel
theorem dX3_findDirectFaults_74 : decode cX3_findDirectFaults 74 = .ok (.iconst 1, 1) := by decide +kernel
theorem dX3_findDirectFaults_75 : decode cX3_findDirectFaults 75 = .ok (.iadd, 1) := by decide +kernel
theorem dX3_findDirectFaults_76 : decode cX3_findDirectFaults 76 = .ok (.iaload, 1) := by decide +kernel
theorem dX3_findDirectFaults_77 : decode cX3_findDirectFaults 77 = .ok (.iload 4, 2) := by decide +kernel
theorem dX3_findDirectFaults_79 : decode cX3_findDirectFaults 79 = .ok (.invokevirtual 112, 3) := by decide +kernel
theorem dX3_findDirectFaults_82 : decode cX3_findDirectFaults 82 = .ok (.istore 6, 2) := by decide +kernel
theorem dX3_findDirectFaults_84 : decode cX3_findDirectFaults 84 = .ok (.aload_n 1, 1) := by decide +kernel
theorem dX3_findDirectFaults_85 : decode cX3_findDirectFaults 85 = .ok (.getfield 62, 3) := by decide +kernel
theorem dX3_findDirectFaults_88 : decode cX3_findDirectFaults 88 = .ok (.iload_n 3, 1) := by decide +kernel
theorem dX3_findDirectFaults_89 : decode cX3_findDirectFaults 89 = .ok (.iload 6, 2) := by decide +kernel
theorem dX3_findDirectFaults_91 : decode cX3_findDirectFaults 91 = .ok (.iastore, 1) := by decide +kernel
theorem dX3_findDirectFaults_92 : decode cX3_findDirectFaults 92 = .ok (.aload_n 0, 1) := by decide +kernel
theorem dX3_findDirectFaults_93 : decode cX3_findDirectFaults 93 = .ok (.getfield 24, 3) := by decide +kernel
theorem dX3_findDirectFaults_96 : decode cX3_findDirectFaults 96 = .ok (.iload_n 3, 1) := by decide +kernel
theorem dX3_findDirectFaults_97 : decode cX3_findDirectFaults 97 = .ok (.iload 4, 2) := by decide +kernel
theorem dX3_findDirectFaults_99 : decode cX3_findDirectFaults 99 = .ok (.ifCond .eq 12, 3) := by decide +kernel
theorem dX3_findDirectFaults_102 : decode cX3_findDirectFaults 102 = .ok (.iload 6, 2) := by decide +kernel
theorem dX3_findDirectFaults_104 : decode cX3_findDirectFaults 104 = .ok (.ifCond .ne 7, 3) := by decide +kernel
theorem dX3_findDirectFaults_107 : decode cX3_findDirectFaults 107 = .ok (.iconst 1, 1) := by decide +kernel
theorem dX3_findDirectFaults_108 : decode cX3_findDirectFaults 108 = .ok (.goto 4, 3) := by decide +kernel
theorem dX3_findDirectFaults_111 : decode cX3_findDirectFaults 111 = .ok (.iconst 0, 1) := by decide +kernel
theorem dX3_findDirectFaults_112 : decode cX3_findDirectFaults 112 = .ok (.bastore, 1) := by decide +kernel
theorem dX3_findDirectFaults_113 : decode cX3_findDirectFaults 113 = .ok (.iinc 2 1, 3) := by decide +kernel
theorem dX3_findDirectFaults_116 : decode cX3_findDirectFaults 116 = .ok (.goto (-107), 3) := by decide +kernel
theorem dX3_findDirectFaults_119 : decode cX3_findDirectFaults 119 = .ok (.return_, 1) := by decide +kernel
theorem dX3_directFault_0 : decode cX3_directFault 0 = .ok (.iload_n 1, 1) := by decide +kernel
theorem dX3_directFault_1 : decode cX3_directFault 1 = .ok (.iconst (-1), 1) := by decide +kernel
theorem dX3_directFault_2 : decode cX3_directFault 2 = .ok (.if_icmp .ne 5, 3) := by decide +kernel
theorem dX3_directFault_5 : decode cX3_directFault 5 = .ok (.iconst 1, 1) := by decide +kernel
theorem dX3_directFault_6 : decode cX3_directFault 6 = .ok (.ireturn, 1) := by decide +kernel
theorem dX3_directFault_7 : decode cX3_directFault 7 = .ok (.iload_n 1, 1) := by decide +kernel
theorem dX3_directFault_8 : decode cX3_directFault 8 = .ok (.bipush (-2), 2) := by decide +kernel
theorem dX3_directFault_10 : decode cX3_directFault 10 = .ok (.if_icmp .ne 5, 3) := by decide +kernel
theorem dX3_directFault_13 : decode cX3_directFault 13 = .ok (.iconst 2, 1) := by decide +kernel
theorem dX3_directFault_14 : decode cX3_directFault 14 = .ok (.ireturn, 1) := by decide +kernel
theorem dX3_directFault_15 : decode cX3_directFault 15 = .ok (.iload_n 2, 1) := by decide +kernel
theorem dX3_directFault_16 : decode cX3_directFault 16 = .ok (.ifCond .eq 28, 3) := by decide +kernel
theorem dX3_directFault_19 : decode cX3_directFault 19 = .ok (.iload_n 1, 1) := by decide +kernel
theorem dX3_directFault_20 : decode cX3_directFault 20 = .ok (.ifCond .lt 24, 3) := by decide +kernel
theorem dX3_directFault_23 : decode cX3_directFault 23 = .ok (.aload_n 0, 1) := by decide +kernel
theorem dX3_directFault_24 : decode cX3_directFault 24 = .ok (.getfield 11, 3) := by decide +kernel
theorem dX3_directFault_27 : decode cX3_directFault 27 = .ok (.iload_n 1, 1) := by decide +kernel
theorem dX3_directFault_28 : decode cX3_directFault 28 = .ok (.bipush 16, 2) := by decide +kernel
theorem dX3_directFault_30 : decode cX3_directFault 30 = .ok (.idiv, 1) := by decide +kernel
theorem dX3_directFault_31 : decode cX3_directFault 31 = .ok (.aaload, 1) := by decide +kernel
theorem dX3_directFault_32 : decode cX3_directFault 32 = .ok (.getfield 89, 3) := by decide +kernel
theorem dX3_directFault_35 : decode cX3_directFault 35 = .ok (.iload_n 1, 1) := by decide +kernel
theorem dX3_directFault_36 : decode cX3_directFault 36 = .ok (.baload, 1) := by decide +kernel
theorem dX3_directFault_37 : decode cX3_directFault 37 = .ok (.ifCond .eq 7, 3) := by decide +kernel
theorem dX3_directFault_40 : decode cX3_directFault 40 = .ok (.iconst 3, 1) := by decide +kernel
theorem dX3_directFault_41 : decode cX3_directFault 41 = .ok (.goto 4, 3) := by decide +kernel
theorem dX3_directFault_44 : decode cX3_directFault 44 = .ok (.iconst 0, 1) := by decide +kernel
theorem dX3_directFault_45 : decode cX3_directFault 45 = .ok (.ireturn, 1) := by decide +kernel
theorem dX3_comesBack_0 : decode cX3_comesBack 0 = .ok (.aload_n 0, 1) := by decide +kernel
theorem dX3_comesBack_1 : decode cX3_comesBack 1 = .ok (.getfield 31, 3) := by decide +kernel
theorem dX3_comesBack_4 : decode cX3_comesBack 4 = .ok (.invokestatic 108, 3) := by decide +kernel
theorem dX3_comesBack_7 : decode cX3_comesBack 7 = .ok (.aload_n 0, 1) := by decide +kernel
theorem dX3_comesBack_8 : decode cX3_comesBack 8 = .ok (.getfield 28, 3) := by decide +kernel
theorem dX3_comesBack_11 : decode cX3_comesBack 11 = .ok (.iconst 0, 1) := by decide +kernel
theorem dX3_comesBack_12 : decode cX3_comesBack 12 = .ok (.iload_n 1, 1) := by decide +kernel
theorem dX3_comesBack_13 : decode cX3_comesBack 13 = .ok (.iastore, 1) := by decide +kernel
theorem dX3_comesBack_14 : decode cX3_comesBack 14 = .ok (.iconst 1, 1) := by decide +kernel
theorem dX3_comesBack_15 : decode cX3_comesBack 15 = .ok (.istore_n 2, 1) := by decide +kernel
theorem dX3_comesBack_16 : decode cX3_comesBack 16 = .ok (.iconst 0, 1) := by decide +kernel
theorem dX3_comesBack_17 : decode cX3_comesBack 17 = .ok (.istore_n 3, 1) := by decide +kernel
theorem dX3_comesBack_18 : decode cX3_comesBack 18 = .ok (.iload_n 3, 1) := by decide +kernel
theorem dX3_comesBack_19 : decode cX3_comesBack 19 = .ok (.iload_n 2, 1) := by decide +kernel
theorem dX3_comesBack_20 : decode cX3_comesBack 20 = .ok (.if_icmp .ge 108, 3) := by decide +kernel
theorem dX3_comesBack_23 : decode cX3_comesBack 23 = .ok (.iload_n 3, 1) := by decide +kernel
theorem dX3_comesBack_24 : decode cX3_comesBack 24 = .ok (.sipush 128, 3) := by decide +kernel
theorem dX3_comesBack_27 : decode cX3_comesBack 27 = .ok (.if_icmp .ge 101, 3) := by decide +kernel
theorem dX3_comesBack_30 : decode cX3_comesBack 30 = .ok (.iconst 0, 1) := by decide +kernel
theorem dX3_comesBack_31 : decode cX3_comesBack 31 = .ok (.istore 4, 2) := by decide +kernel
theorem dX3_comesBack_33 : decode cX3_comesBack 33 = .ok (.iload 4, 2) := by decide +kernel
theorem dX3_comesBack_35 : decode cX3_comesBack 35 = .ok (.iconst 2, 1) := by decide +kernel
theorem dX3_comesBack_36 : decode cX3_comesBack 36 = .ok (.if_icmp .ge 86, 3) := by decide +kernel
theorem dX3_comesBack_39 : decode cX3_comesBack 39 = .ok (.aload_n 0, 1) := by decide +kernel
theorem dX3_comesBack_40 : decode cX3_comesBack 40 = .ok (.getfield 21, 3) := by decide +kernel
theorem dX3_comesBack_43 : decode cX3_comesBack 43 = .ok (.iconst 2, 1) := by decide +kernel
theorem dX3_comesBack_44 : decode cX3_comesBack 44 = .ok (.aload_n 0, 1) := by decide +kernel
theorem dX3_comesBack_45 : decode cX3_comesBack 45 = .ok (.getfield 28, 3) := by decide +kernel
theorem dX3_comesBack_48 : decode cX3_comesBack 48 = .ok (.iload_n 3, 1) := by decide +kernel
theorem dX3_comesBack_49 : decode cX3_comesBack 49 = .ok (.iaload, 1) := by decide +kernel
theorem dX3_comesBack_50 : decode cX3_comesBack 50 = .ok (.imul, 1) := by decide +kernel
theorem dX3_comesBack_51 : decode cX3_comesBack 51 = .ok (.iload 4, 2) := by decide +kernel
theorem dX3_comesBack_53 : decode cX3_comesBack 53 = .ok (.iadd, 1) := by decide +kernel
theorem dX3_comesBack_54 : decode cX3_comesBack 54 = .ok (.iaload, 1) := by decide +kernel
theorem dX3_comesBack_55 : decode cX3_comesBack 55 = .ok (.istore 5, 2) := by decide +kernel
theorem dX3_comesBack_57 : decode cX3_comesBack 57 = .ok (.iload 5, 2) := by decide +kernel
theorem dX3_comesBack_59 : decode cX3_comesBack 59 = .ok (.iload_n 1, 1) := by decide +kernel
theorem dX3_comesBack_60 : decode cX3_comesBack 60 = .ok (.if_icmp .ne 5, 3) := by decide +kernel
theorem dX3_comesBack_63 : decode cX3_comesBack 63 = .ok (.iconst 1, 1) := by decide +kernel
theorem dX3_comesBack_64 : decode cX3_comesBack 64 = .ok (.ireturn, 1) := by decide +kernel
theorem dX3_comesBack_65 : decode cX3_comesBack 65 = .ok (.iload 5, 2) := by decide +kernel
theorem dX3_comesBack_67 : decode cX3_comesBack 67 = .ok (.ifCond .lt 49, 3) := by decide +kernel
theorem dX3_comesBack_70 : decode cX3_comesBack 70 = .ok (.aload_n 0, 1) := by decide +kernel
theorem dX3_comesBack_71 : decode cX3_comesBack 71 = .ok (.getfield 24, 3) := by decide +kernel
theorem dX3_comesBack_74 : decode cX3_comesBack 74 = .ok (.iload 5, 2) := by decide +kernel
theorem dX3_comesBack_76 : decode cX3_comesBack 76 = .ok (.baload, 1) := by decide +kernel
theorem dX3_comesBack_77 : decode cX3_comesBack 77 = .ok (.ifCond .eq 39, 3) := by decide +kernel
theorem dX3_comesBack_80 : decode cX3_comesBack 80 = .ok (.aload_n 0, 1) := by decide +kernel
theorem dX3_comesBack_81 : decode cX3_comesBack 81 = .ok (.getfield 31, 3) := by decide +kernel
theorem dX3_comesBack_84 : decode cX3_comesBack 84 = .ok (.iload 5, 2) := by decide +kernel
theorem dX3_comesBack_86 : decode cX3_comesBack 86 = .ok (.baload, 1) := by decide +kernel
theorem dX3_comesBack_87 : decode cX3_comesBack 87 = .ok (.ifCond .ne 29, 3) := by decide +kernel
theorem dX3_comesBack_90 : decode cX3_comesBack 90 = .ok (.iload_n 2, 1) := by decide +kernel
theorem dX3_comesBack_91 : decode cX3_comesBack 91 = .ok (.sipush 128, 3) := by decide +kernel
theorem dX3_comesBack_94 : decode cX3_comesBack 94 = .ok (.if_icmp .ge 22, 3) := by decide +kernel
theorem dX3_comesBack_97 : decode cX3_comesBack 97 = .ok (.aload_n 0, 1) := by decide +kernel
theorem dX3_comesBack_98 : decode cX3_comesBack 98 = .ok (.getfield 31, 3) := by decide +kernel
theorem dX3_comesBack_101 : decode cX3_comesBack 101 = .ok (.iload 5, 2) := by decide +kernel
theorem dX3_comesBack_103 : decode cX3_comesBack 103 = .ok (.iconst 1, 1) := by decide +kernel
theorem dX3_comesBack_104 : decode cX3_comesBack 104 = .ok (.bastore, 1) := by decide +kernel
theorem dX3_comesBack_105 : decode cX3_comesBack 105 = .ok (.aload_n 0, 1) := by decide +kernel
theorem dX3_comesBack_106 : decode cX3_comesBack 106 = .ok (.getfield 28, 3) := by decide +kernel
theorem dX3_comesBack_109 : decode cX3_comesBack 109 = .ok (.iload_n 2, 1) := by decide +kernel
theorem dX3_comesBack_110 : decode cX3_comesBack 110 = .ok (.iload 5, 2) := by decide +kernel
theorem dX3_comesBack_112 : decode cX3_comesBack 112 = .ok (.iastore, 1) := by decide +kernel
theorem dX3_comesBack_113 : decode cX3_comesBack 113 = .ok (.iinc 2 1, 3) := by decide +kernel
theorem dX3_comesBack_116 : decode cX3_comesBack 116 = .ok (.iinc 4 1, 3) := by decide +kernel
theorem dX3_comesBack_119 : decode cX3_comesBack 119 = .ok (.goto (-86), 3) := by decide +kernel
theorem dX3_comesBack_122 : decode cX3_comesBack 122 = .ok (.iinc 3 1, 3) := by decide +kernel
theorem dX3_comesBack_125 : decode cX3_comesBack 125 = .ok (.goto (-107), 3) := by decide +kernel
theorem dX3_comesBack_128 : decode cX3_comesBack 128 = .ok (.iconst 0, 1) := by decide +kernel
theorem dX3_comesBack_129 : decode cX3_comesBack 129 = .ok (.ireturn, 1) := by decide +kernel
theorem dX3_spreadFaults_0 : decode cX3_spreadFaults 0 = .ok (.iconst 1, 1) := by decide +kernel
theorem dX3_spreadFaults_1 : decode cX3_spreadFaults 1 = .ok (.istore_n 2, 1) := by decide +kernel
theorem dX3_spreadFaults_2 : decode cX3_spreadFaults 2 = .ok (.iconst 0, 1) := by decide +kernel
theorem dX3_spreadFaults_3 : decode cX3_spreadFaults 3 = .ok (.istore_n 3, 1) := by decide +kernel
theorem dX3_spreadFaults_4 : decode cX3_spreadFaults 4 = .ok (.iload_n 3, 1) := by decide +kernel
theorem dX3_spreadFaults_5 : decode cX3_spreadFaults 5 = .ok (.sipush 128, 3) := by decide +kernel
theorem dX3_spreadFaults_8 : decode cX3_spreadFaults 8 = .ok (.if_icmp .gt 96, 3) := by decide +kernel
theorem dX3_spreadFaults_11 : decode cX3_spreadFaults 11 = .ok (.iload_n 2, 1) := by decide +kernel
theorem dX3_spreadFaults_12 : decode cX3_spreadFaults 12 = .ok (.ifCond .eq 92, 3) := by decide +kernel
theorem dX3_spreadFaults_15 : decode cX3_spreadFaults 15 = .ok (.iconst 0, 1) := by decide +kernel
theorem dX3_spreadFaults_16 : decode cX3_spreadFaults 16 = .ok (.istore_n 2, 1) := by decide +kernel
theorem dX3_spreadFaults_17 : decode cX3_spreadFaults 17 = .ok (.iconst 0, 1) := by decide +kernel
theorem dX3_spreadFaults_18 : decode cX3_spreadFaults 18 = .ok (.istore 4, 2) := by decide +kernel
theorem dX3_spreadFaults_20 : decode cX3_spreadFaults 20 = .ok (.iload 4, 2) := by decide +kernel
theorem dX3_spreadFaults_22 : decode cX3_spreadFaults 22 = .ok (.aload_n 0, 1) := by decide +kernel
theorem dX3_spreadFaults_23 : decode cX3_spreadFaults 23 = .ok (.getfield 55, 3) := by decide +kernel
theorem dX3_spreadFaults_26 : decode cX3_spreadFaults 26 = .ok (.if_icmp .ge 72, 3) := by decide +kernel
theorem dX3_spreadFaults_29 : decode cX3_spreadFaults 29 = .ok (.aload_n 0, 1) := by decide +kernel
theorem dX3_spreadFaults_30 : decode cX3_spreadFaults 30 = .ok (.getfield 17, 3) := by decide +kernel
theorem dX3_spreadFaults_33 : decode cX3_spreadFaults 33 = .ok (.iload 4, 2) := by decide +kernel
theorem dX3_spreadFaults_35 : decode cX3_spreadFaults 35 = .ok (.iaload, 1) := by decide +kernel
theorem dX3_spreadFaults_36 : decode cX3_spreadFaults 36 = .ok (.istore 5, 2) := by decide +kernel
theorem dX3_spreadFaults_38 : decode cX3_spreadFaults 38 = .ok (.aload_n 1, 1) := by decide +kernel
theorem dX3_spreadFaults_39 : decode cX3_spreadFaults 39 = .ok (.getfield 62, 3) := by decide +kernel
theorem dX3_spreadFaults_42 : decode cX3_spreadFaults 42 = .ok (.iload 5, 2) := by decide +kernel
theorem dX3_spreadFaults_44 : decode cX3_spreadFaults 44 = .ok (.iaload, 1) := by decide +kernel
theorem dX3_spreadFaults_45 : decode cX3_spreadFaults 45 = .ok (.ifCond .ne 47, 3) := by decide +kernel
theorem dX3_spreadFaults_48 : decode cX3_spreadFaults 48 = .ok (.aload_n 0, 1) := by decide +kernel
theorem dX3_spreadFaults_49 : decode cX3_spreadFaults 49 = .ok (.aload_n 0, 1) := by decide +kernel
theorem dX3_spreadFaults_50 : decode cX3_spreadFaults 50 = .ok (.getfield 21, 3) := by decide +kernel
theorem dX3_spreadFaults_53 : decode cX3_spreadFaults 53 = .ok (.iconst 2, 1) := by decide +kernel
theorem dX3_spreadFaults_54 : decode cX3_spreadFaults 54 = .ok (.iload 5, 2) := by decide +kernel
theorem dX3_spreadFaults_56 : decode cX3_spreadFaults 56 = .ok (.imul, 1) := by decide +kernel
theorem dX3_spreadFaults_57 : decode cX3_spreadFaults 57 = .ok (.iaload, 1) := by decide +kernel
theorem dX3_spreadFaults_58 : decode cX3_spreadFaults 58 = .ok (.invokevirtual 116, 3) := by decide +kernel
theorem dX3_spreadFaults_61 : decode cX3_spreadFaults 61 = .ok (.ifCond .ne 21, 3) := by decide +kernel
theorem dX3_spreadFaults_64 : decode cX3_spreadFaults 64 = .ok (.aload_n 0, 1) := by decide +kernel
theorem dX3_spreadFaults_65 : decode cX3_spreadFaults 65 = .ok (.aload_n 0, 1) := by decide +kernel
theorem dX3_spreadFaults_66 : decode cX3_spreadFaults 66 = .ok (.getfield 21, 3) := by decide +kernel
theorem dX3_spreadFaults_69 : decode cX3_spreadFaults 69 = .ok (.iconst 2, 1) := by decide +kernel
theorem dX3_spreadFaults_70 : decode cX3_spreadFaults 70 = .ok (.iload 5, 2) := by decide +kernel
theorem dX3_spreadFaults_72 : decode cX3_spreadFaults 72 = .ok (.imul, 1) := by decide +kernel
theorem dX3_spreadFaults_73 : decode cX3_spreadFaults 73 = .ok (.iconst 1, 1) := by decide +kernel
theorem dX3_spreadFaults_74 : decode cX3_spreadFaults 74 = .ok (.iadd, 1) := by decide +kernel
theorem dX3_spreadFaults_75 : decode cX3_spreadFaults 75 = .ok (.iaload, 1) := by decide +kernel
theorem dX3_spreadFaults_76 : decode cX3_spreadFaults 76 = .ok (.invokevirtual 116, 3) := by decide +kernel
theorem dX3_spreadFaults_79 : decode cX3_spreadFaults 79 = .ok (.ifCond .eq 13, 3) := by decide +kernel
theorem dX3_spreadFaults_82 : decode cX3_spreadFaults 82 = .ok (.aload_n 1, 1) := by decide +kernel
theorem dX3_spreadFaults_83 : decode cX3_spreadFaults 83 = .ok (.getfield 62, 3) := by decide +kernel
theorem dX3_spreadFaults_86 : decode cX3_spreadFaults 86 = .ok (.iload 5, 2) := by decide +kernel
theorem dX3_spreadFaults_88 : decode cX3_spreadFaults 88 = .ok (.iconst 5, 1) := by decide +kernel
theorem dX3_spreadFaults_89 : decode cX3_spreadFaults 89 = .ok (.iastore, 1) := by decide +kernel
theorem dX3_spreadFaults_90 : decode cX3_spreadFaults 90 = .ok (.iconst 1, 1) := by decide +kernel
theorem dX3_spreadFaults_91 : decode cX3_spreadFaults 91 = .ok (.istore_n 2, 1) := by decide +kernel
theorem dX3_spreadFaults_92 : decode cX3_spreadFaults 92 = .ok (.iinc 4 1, 3) := by decide +kernel
theorem dX3_spreadFaults_95 : decode cX3_spreadFaults 95 = .ok (.goto (-75), 3) := by decide +kernel
theorem dX3_spreadFaults_98 : decode cX3_spreadFaults 98 = .ok (.iinc 3 1, 3) := by decide +kernel
theorem dX3_spreadFaults_101 : decode cX3_spreadFaults 101 = .ok (.goto (-97), 3) := by decide +kernel
theorem dX3_spreadFaults_104 : decode cX3_spreadFaults 104 = .ok (.return_, 1) := by decide +kernel
theorem dX3_isFaulty_0 : decode cX3_isFaulty 0 = .ok (.iload_n 1, 1) := by decide +kernel
theorem dX3_isFaulty_1 : decode cX3_isFaulty 1 = .ok (.ifCond .lt 24, 3) := by decide +kernel
theorem dX3_isFaulty_4 : decode cX3_isFaulty 4 = .ok (.aload_n 0, 1) := by decide +kernel
theorem dX3_isFaulty_5 : decode cX3_isFaulty 5 = .ok (.getfield 11, 3) := by decide +kernel
theorem dX3_isFaulty_8 : decode cX3_isFaulty 8 = .ok (.iload_n 1, 1) := by decide +kernel
theorem dX3_isFaulty_9 : decode cX3_isFaulty 9 = .ok (.bipush 16, 2) := by decide +kernel
theorem dX3_isFaulty_11 : decode cX3_isFaulty 11 = .ok (.idiv, 1) := by decide +kernel
theorem dX3_isFaulty_12 : decode cX3_isFaulty 12 = .ok (.aaload, 1) := by decide +kernel
theorem dX3_isFaulty_13 : decode cX3_isFaulty 13 = .ok (.getfield 62, 3) := by decide +kernel
theorem dX3_isFaulty_16 : decode cX3_isFaulty 16 = .ok (.iload_n 1, 1) := by decide +kernel
theorem dX3_isFaulty_17 : decode cX3_isFaulty 17 = .ok (.iaload, 1) := by decide +kernel
theorem dX3_isFaulty_18 : decode cX3_isFaulty 18 = .ok (.ifCond .eq 7, 3) := by decide +kernel
theorem dX3_isFaulty_21 : decode cX3_isFaulty 21 = .ok (.iconst 1, 1) := by decide +kernel
theorem dX3_isFaulty_22 : decode cX3_isFaulty 22 = .ok (.goto 4, 3) := by decide +kernel
theorem dX3_isFaulty_25 : decode cX3_isFaulty 25 = .ok (.iconst 0, 1) := by decide +kernel
theorem dX3_isFaulty_26 : decode cX3_isFaulty 26 = .ok (.ireturn, 1) := by decide +kernel
theorem dX3_findPlain_0 : decode cX3_findPlain 0 = .ok (.iconst 1, 1) := by decide +kernel
theorem dX3_findPlain_1 : decode cX3_findPlain 1 = .ok (.istore_n 2, 1) := by decide +kernel
theorem dX3_findPlain_2 : decode cX3_findPlain 2 = .ok (.iconst 0, 1) := by decide +kernel
theorem dX3_findPlain_3 : decode cX3_findPlain 3 = .ok (.istore_n 3, 1) := by decide +kernel
theorem dX3_findPlain_4 : decode cX3_findPlain 4 = .ok (.iload_n 3, 1) := by decide +kernel
theorem dX3_findPlain_5 : decode cX3_findPlain 5 = .ok (.sipush 128, 3) := by decide +kernel
theorem dX3_findPlain_8 : decode cX3_findPlain 8 = .ok (.if_icmp .gt 120, 3) := by decide +kernel
theorem dX3_findPlain_11 : decode cX3_findPlain 11 = .ok (.iload_n 2, 1) := by decide +kernel
theorem dX3_findPlain_12 : decode cX3_findPlain 12 = .ok (.ifCond .eq 116, 3) := by decide +kernel
theorem dX3_findPlain_15 : decode cX3_findPlain 15 = .ok (.iconst 0, 1) := by decide +kernel
theorem dX3_findPlain_16 : decode cX3_findPlain 16 = .ok (.istore_n 2, 1) := by decide +kernel
theorem dX3_findPlain_17 : decode cX3_findPlain 17 = .ok (.iconst 0, 1) := by decide +kernel
theorem dX3_findPlain_18 : decode cX3_findPlain 18 = .ok (.istore 4, 2) := by decide +kernel
theorem dX3_findPlain_20 : decode cX3_findPlain 20 = .ok (.iload 4, 2) := by decide +kernel
theorem dX3_findPlain_22 : decode cX3_findPlain 22 = .ok (.aload_n 0, 1) := by decide +kernel
theorem dX3_findPlain_23 : decode cX3_findPlain 23 = .ok (.getfield 55, 3) := by decide +kernel
theorem dX3_findPlain_26 : decode cX3_findPlain 26 = .ok (.if_icmp .ge 96, 3) := by decide +kernel
theorem dX3_findPlain_29 : decode cX3_findPlain 29 = .ok (.aload_n 0, 1) := by decide +kernel
theorem dX3_findPlain_30 : decode cX3_findPlain 30 = .ok (.getfield 17, 3) := by decide +kernel
theorem dX3_findPlain_33 : decode cX3_findPlain 33 = .ok (.iload 4, 2) := by decide +kernel
theorem dX3_findPlain_35 : decode cX3_findPlain 35 = .ok (.iaload, 1) := by decide +kernel
theorem dX3_findPlain_36 : decode cX3_findPlain 36 = .ok (.istore 5, 2) := by decide +kernel
theorem dX3_findPlain_38 : decode cX3_findPlain 38 = .ok (.aload_n 1, 1) := by decide +kernel
theorem dX3_findPlain_39 : decode cX3_findPlain 39 = .ok (.getfield 62, 3) := by decide +kernel
theorem dX3_findPlain_42 : decode cX3_findPlain 42 = .ok (.iload 5, 2) := by decide +kernel
theorem dX3_findPlain_44 : decode cX3_findPlain 44 = .ok (.iaload, 1) := by decide +kernel
theorem dX3_findPlain_45 : decode cX3_findPlain 45 = .ok (.ifCond .ne 71, 3) := by decide +kernel
theorem dX3_findPlain_48 : decode cX3_findPlain 48 = .ok (.aload_n 1, 1) := by decide +kernel
theorem dX3_findPlain_49 : decode cX3_findPlain 49 = .ok (.getfield 119, 3) := by decide +kernel
theorem dX3_findPlain_52 : decode cX3_findPlain 52 = .ok (.iload 5, 2) := by decide +kernel
theorem dX3_findPlain_54 : decode cX3_findPlain 54 = .ok (.baload, 1) := by decide +kernel
theorem dX3_findPlain_55 : decode cX3_findPlain 55 = .ok (.ifCond .ne 61, 3) := by decide +kernel
theorem dX3_findPlain_58 : decode cX3_findPlain 58 = .ok (.aload_n 0, 1) := by decide +kernel
theorem dX3_findPlain_59 : decode cX3_findPlain 59 = .ok (.aload_n 0, 1) := by decide +kernel
theorem dX3_findPlain_60 : decode cX3_findPlain 60 = .ok (.getfield 21, 3) := by decide +kernel
theorem dX3_findPlain_63 : decode cX3_findPlain 63 = .ok (.iconst 2, 1) := by decide +kernel
theorem dX3_findPlain_64 : decode cX3_findPlain 64 = .ok (.iload 5, 2) := by decide +kernel
theorem dX3_findPlain_66 : decode cX3_findPlain 66 = .ok (.imul, 1) := by decide +kernel
theorem dX3_findPlain_67 : decode cX3_findPlain 67 = .ok (.iaload, 1) := by decide +kernel
theorem dX3_findPlain_68 : decode cX3_findPlain 68 = .ok (.invokevirtual 122, 3) := by decide +kernel
theorem dX3_findPlain_71 : decode cX3_findPlain 71 = .ok (.ifCond .eq 45, 3) := by decide +kernel
theorem dX3_findPlain_74 : decode cX3_findPlain 74 = .ok (.aload_n 0, 1) := by decide +kernel
theorem dX3_findPlain_75 : decode cX3_findPlain 75 = .ok (.aload_n 0, 1) := by decide +kernel
theorem dX3_findPlain_76 : decode cX3_findPlain 76 = .ok (.getfield 21, 3) := by decide +kernel
theorem dX3_findPlain_79 : decode cX3_findPlain 79 = .ok (.iconst 2, 1) := by decide +kernel
theorem dX3_findPlain_80 : decode cX3_findPlain 80 = .ok (.iload 5, 2) := by decide +kernel
theorem dX3_findPlain_82 : decode cX3_findPlain 82 = .ok (.imul, 1) := by decide +kernel
theorem dX3_findPlain_83 : decode cX3_findPlain 83 = .ok (.iconst 1, 1) := by decide +kernel
theorem dX3_findPlain_84 : decode cX3_findPlain 84 = .ok (.iadd, 1) := by decide +kernel
theorem dX3_findPlain_85 : decode cX3_findPlain 85 = .ok (.iaload, 1) := by decide +kernel
theorem dX3_findPlain_86 : decode cX3_findPlain 86 = .ok (.invokevirtual 122, 3) := by decide +kernel
theorem dX3_findPlain_89 : decode cX3_findPlain 89 = .ok (.ifCond .eq 27, 3) := by decide +kernel
theorem dX3_findPlain_92 : decode cX3_findPlain 92 = .ok (.aload_n 1, 1) := by decide +kernel
theorem dX3_findPlain_93 : decode cX3_findPlain 93 = .ok (.getfield 119, 3) := by decide +kernel
theorem dX3_findPlain_96 : decode cX3_findPlain 96 = .ok (.iload 5, 2) := by decide +kernel
theorem dX3_findPlain_98 : decode cX3_findPlain 98 = .ok (.iconst 1, 1) := by decide +kernel
theorem dX3_findPlain_99 : decode cX3_findPlain 99 = .ok (.bastore, 1) := by decide +kernel
theorem dX3_findPlain_100 : decode cX3_findPlain 100 = .ok (.aload_n 1, 1) := by decide +kernel
theorem dX3_findPlain_101 : decode cX3_findPlain 101 = .ok (.getfield 125, 3) := by decide +kernel
theorem dX3_findPlain_104 : decode cX3_findPlain 104 = .ok (.iload 5, 2) := by decide +kernel
theorem dX3_findPlain_106 : decode cX3_findPlain 106 = .ok (.aload_n 0, 1) := by decide +kernel
theorem dX3_findPlain_107 : decode cX3_findPlain 107 = .ok (.aload_n 1, 1) := by decide +kernel
theorem dX3_findPlain_108 : decode cX3_findPlain 108 = .ok (.iload 5, 2) := by decide +kernel
theorem dX3_findPlain_110 : decode cX3_findPlain 110 = .ok (.invokevirtual 128, 3) := by decide +kernel
theorem dX3_findPlain_113 : decode cX3_findPlain 113 = .ok (.iastore, 1) := by decide +kernel
theorem dX3_findPlain_114 : decode cX3_findPlain 114 = .ok (.iconst 1, 1) := by decide +kernel
theorem dX3_findPlain_115 : decode cX3_findPlain 115 = .ok (.istore_n 2, 1) := by decide +kernel
theorem dX3_findPlain_116 : decode cX3_findPlain 116 = .ok (.iinc 4 1, 3) := by decide +kernel
theorem dX3_findPlain_119 : decode cX3_findPlain 119 = .ok (.goto (-99), 3) := by decide +kernel
theorem dX3_findPlain_122 : decode cX3_findPlain 122 = .ok (.iinc 3 1, 3) := by decide +kernel
theorem dX3_findPlain_125 : decode cX3_findPlain 125 = .ok (.goto (-121), 3) := by decide +kernel
theorem dX3_findPlain_128 : decode cX3_findPlain 128 = .ok (.return_, 1) := by decide +kernel
theorem dX3_isNoCall_0 : decode cX3_isNoCall 0 = .ok (.iload_n 1, 1) := by decide +kernel
theorem dX3_isNoCall_1 : decode cX3_isNoCall 1 = .ok (.ifCond .lt 20, 3) := by decide +kernel
theorem dX3_isNoCall_4 : decode cX3_isNoCall 4 = .ok (.aload_n 0, 1) := by decide +kernel
theorem dX3_isNoCall_5 : decode cX3_isNoCall 5 = .ok (.getfield 11, 3) := by decide +kernel
theorem dX3_isNoCall_8 : decode cX3_isNoCall 8 = .ok (.iload_n 1, 1) := by decide +kernel
theorem dX3_isNoCall_9 : decode cX3_isNoCall 9 = .ok (.bipush 16, 2) := by decide +kernel
theorem dX3_isNoCall_11 : decode cX3_isNoCall 11 = .ok (.idiv, 1) := by decide +kernel
theorem dX3_isNoCall_12 : decode cX3_isNoCall 12 = .ok (.aaload, 1) := by decide +kernel
theorem dX3_isNoCall_13 : decode cX3_isNoCall 13 = .ok (.getfield 119, 3) := by decide +kernel
theorem dX3_isNoCall_16 : decode cX3_isNoCall 16 = .ok (.iload_n 1, 1) := by decide +kernel
theorem dX3_isNoCall_17 : decode cX3_isNoCall 17 = .ok (.baload, 1) := by decide +kernel
theorem dX3_isNoCall_18 : decode cX3_isNoCall 18 = .ok (.ifCond .eq 7, 3) := by decide +kernel
theorem dX3_isNoCall_21 : decode cX3_isNoCall 21 = .ok (.iconst 1, 1) := by decide +kernel
theorem dX3_isNoCall_22 : decode cX3_isNoCall 22 = .ok (.goto 4, 3) := by decide +kernel
theorem dX3_isNoCall_25 : decode cX3_isNoCall 25 = .ok (.iconst 0, 1) := by decide +kernel
theorem dX3_isNoCall_26 : decode cX3_isNoCall 26 = .ok (.ireturn, 1) := by decide +kernel
theorem dX3_numberWithTargets_0 : decode cX3_numberWithTargets 0 = .ok (.aload_n 1, 1) := by decide +kernel
theorem dX3_numberWithTargets_1 : decode cX3_numberWithTargets 1 = .ok (.getfield 77, 3) := by decide +kernel
theorem dX3_numberWithTargets_4 : decode cX3_numberWithTargets 4 = .ok (.getfield 86, 3) := by decide +kernel
theorem dX3_numberWithTargets_7 : decode cX3_numberWithTargets 7 = .ok (.iload_n 2, 1) := by decide +kernel
theorem dX3_numberWithTargets_8 : decode cX3_numberWithTargets 8 = .ok (.iaload, 1) := by decide +kernel
theorem dX3_numberWithTargets_9 : decode cX3_numberWithTargets 9 = .ok (.invokestatic 132, 3) := by decide +kernel
theorem dX3_numberWithTargets_12 : decode cX3_numberWithTargets 12 = .ok (.istore_n 3, 1) := by decide +kernel
theorem dX3_numberWithTargets_13 : decode cX3_numberWithTargets 13 = .ok (.iconst 0, 1) := by decide +kernel
theorem dX3_numberWithTargets_14 : decode cX3_numberWithTargets 14 = .ok (.istore 4, 2) := by decide +kernel
theorem dX3_numberWithTargets_16 : decode cX3_numberWithTargets 16 = .ok (.iload 4, 2) := by decide +kernel
theorem dX3_numberWithTargets_18 : decode cX3_numberWithTargets 18 = .ok (.iconst 2, 1) := by decide +kernel
theorem dX3_numberWithTargets_19 : decode cX3_numberWithTargets 19 = .ok (.if_icmp .ge 55, 3) := by decide +kernel
theorem dX3_numberWithTargets_22 : decode cX3_numberWithTargets 22 = .ok (.aload_n 0, 1) := by decide +kernel
theorem dX3_numberWithTargets_23 : decode cX3_numberWithTargets 23 = .ok (.getfield 21, 3) := by decide +kernel
theorem dX3_numberWithTargets_26 : decode cX3_numberWithTargets 26 = .ok (.iconst 2, 1) := by decide +kernel
theorem dX3_numberWithTargets_27 : decode cX3_numberWithTargets 27 = .ok (.iload_n 2, 1) := by decide +kernel
theorem dX3_numberWithTargets_28 : decode cX3_numberWithTargets 28 = .ok (.imul, 1) := by decide +kernel
theorem dX3_numberWithTargets_29 : decode cX3_numberWithTargets 29 = .ok (.iload 4, 2) := by decide +kernel
theorem dX3_numberWithTargets_31 : decode cX3_numberWithTargets 31 = .ok (.iadd, 1) := by decide +kernel
theorem dX3_numberWithTargets_32 : decode cX3_numberWithTargets 32 = .ok (.iaload, 1) := by decide +kernel
theorem dX3_numberWithTargets_33 : decode cX3_numberWithTargets 33 = .ok (.istore 5, 2) := by decide +kernel
theorem dX3_numberWithTargets_35 : decode cX3_numberWithTargets 35 = .ok (.iload 5, 2) := by decide +kernel
theorem dX3_numberWithTargets_37 : decode cX3_numberWithTargets 37 = .ok (.ifCond .lt 31, 3) := by decide +kernel
theorem dX3_numberWithTargets_40 : decode cX3_numberWithTargets 40 = .ok (.aload_n 0, 1) := by decide +kernel
theorem dX3_numberWithTargets_41 : decode cX3_numberWithTargets 41 = .ok (.iload 5, 2) := by decide +kernel
theorem dX3_numberWithTargets_43 : decode cX3_numberWithTargets 43 = .ok (.invokevirtual 122, 3) := by decide +kernel
theorem dX3_numberWithTargets_46 : decode cX3_numberWithTargets 46 = .ok (.ifCond .eq 22, 3) := by decide +kernel
theorem dX3_numberWithTargets_49 : decode cX3_numberWithTargets 49 = .ok (.iload_n 3, 1) := by decide +kernel
theorem dX3_numberWithTargets_50 : decode cX3_numberWithTargets 50 = .ok (.aload_n 0, 1) := by decide +kernel
theorem dX3_numberWithTargets_51 : decode cX3_numberWithTargets 51 = .ok (.getfield 11, 3) := by decide +kernel
theorem dX3_numberWithTargets_54 : decode cX3_numberWithTargets 54 = .ok (.iload 5, 2) := by decide +kernel
theorem dX3_numberWithTargets_56 : decode cX3_numberWithTargets 56 = .ok (.bipush 16, 2) := by decide +kernel
theorem dX3_numberWithTargets_58 : decode cX3_numberWithTargets 58 = .ok (.idiv, 1) := by decide +kernel
theorem dX3_numberWithTargets_59 : decode cX3_numberWithTargets 59 = .ok (.aaload, 1) := by decide +kernel
theorem dX3_numberWithTargets_60 : decode cX3_numberWithTargets 60 = .ok (.getfield 125, 3) := by decide +kernel
theorem dX3_numberWithTargets_63 : decode cX3_numberWithTargets 63 = .ok (.iload 5, 2) := by decide +kernel
theorem dX3_numberWithTargets_65 : decode cX3_numberWithTargets 65 = .ok (.iaload, 1) := by decide +kernel
theorem dX3_numberWithTargets_66 : decode cX3_numberWithTargets 66 = .ok (.iadd, 1) := by decide +kernel
theorem dX3_numberWithTargets_67 : decode cX3_numberWithTargets 67 = .ok (.istore_n 3, 1) := by decide +kernel
theorem dX3_numberWithTargets_68 : decode cX3_numberWithTargets 68 = .ok (.iinc 4 1, 3) := by decide +kernel
theorem dX3_numberWithTargets_71 : decode cX3_numberWithTargets 71 = .ok (.goto (-55), 3) := by decide +kernel
theorem dX3_numberWithTargets_74 : decode cX3_numberWithTargets 74 = .ok (.iload_n 3, 1) := by decide +kernel
theorem dX3_numberWithTargets_75 : decode cX3_numberWithTargets 75 = .ok (.ireturn, 1) := by decide +kernel
theorem dX3_findCalls_0 : decode cX3_findCalls 0 = .ok (.iconst 0, 1) := by decide +kernel
theorem dX3_findCalls_1 : decode cX3_findCalls 1 = .ok (.istore_n 2, 1) := by decide +kernel
theorem dX3_findCalls_2 : decode cX3_findCalls 2 = .ok (.iload_n 2, 1) := by decide +kernel
theorem dX3_findCalls_3 : decode cX3_findCalls 3 = .ok (.aload_n 0, 1) := by decide +kernel
theorem dX3_findCalls_4 : decode cX3_findCalls 4 = .ok (.getfield 55, 3) := by decide +kernel
theorem dX3_findCalls_7 : decode cX3_findCalls 7 = .ok (.if_icmp .ge 76, 3) := by decide +kernel
theorem dX3_findCalls_10 : decode cX3_findCalls 10 = .ok (.aload_n 0, 1) := by decide +kernel
theorem dX3_findCalls_11 : decode cX3_findCalls 11 = .ok (.getfield 17, 3) := by decide +kernel
theorem dX3_findCalls_14 : decode cX3_findCalls 14 = .ok (.iload_n 2, 1) := by decide +kernel
theorem dX3_findCalls_15 : decode cX3_findCalls 15 = .ok (.iaload, 1) := by decide +kernel
theorem dX3_findCalls_16 : decode cX3_findCalls 16 = .ok (.istore_n 3, 1) := by decide +kernel
theorem dX3_findCalls_17 : decode cX3_findCalls 17 = .ok (.aload_n 1, 1) := by decide +kernel
theorem dX3_findCalls_18 : decode cX3_findCalls 18 = .ok (.getfield 62, 3) := by decide +kernel
theorem dX3_findCalls_21 : decode cX3_findCalls 21 = .ok (.iload_n 3, 1) := by decide +kernel
theorem dX3_findCalls_22 : decode cX3_findCalls 22 = .ok (.iaload, 1) := by decide +kernel
theorem dX3_findCalls_23 : decode cX3_findCalls 23 = .ok (.ifCond .ne 54, 3) := by decide +kernel
theorem dX3_findCalls_26 : decode cX3_findCalls 26 = .ok (.aload_n 1, 1) := by decide +kernel
theorem dX3_findCalls_27 : decode cX3_findCalls 27 = .ok (.getfield 119, 3) := by decide +kernel
theorem dX3_findCalls_30 : decode cX3_findCalls 30 = .ok (.iload_n 3, 1) := by decide +kernel
theorem dX3_findCalls_31 : decode cX3_findCalls 31 = .ok (.baload, 1) := by decide +kernel
theorem dX3_findCalls_32 : decode cX3_findCalls 32 = .ok (.ifCond .ne 45, 3) := by decide +kernel
theorem dX3_findCalls_35 : decode cX3_findCalls 35 = .ok (.aload_n 1, 1) := by decide +kernel
theorem dX3_findCalls_36 : decode cX3_findCalls 36 = .ok (.getfield 125, 3) := by decide +kernel
theorem dX3_findCalls_39 : decode cX3_findCalls 39 = .ok (.iload_n 3, 1) := by decide +kernel
theorem dX3_findCalls_40 : decode cX3_findCalls 40 = .ok (.aload_n 0, 1) := by decide +kernel
theorem dX3_findCalls_41 : decode cX3_findCalls 41 = .ok (.aload_n 1, 1) := by decide +kernel
theorem dX3_findCalls_42 : decode cX3_findCalls 42 = .ok (.iload_n 3, 1) := by decide +kernel
theorem dX3_findCalls_43 : decode cX3_findCalls 43 = .ok (.invokevirtual 128, 3) := by decide +kernel
theorem dX3_findCalls_46 : decode cX3_findCalls 46 = .ok (.iastore, 1) := by decide +kernel
theorem dX3_findCalls_47 : decode cX3_findCalls 47 = .ok (.aload_n 0, 1) := by decide +kernel
theorem dX3_findCalls_48 : decode cX3_findCalls 48 = .ok (.aload_n 1, 1) := by decide +kernel
theorem dX3_findCalls_49 : decode cX3_findCalls 49 = .ok (.iload_n 3, 1) := by decide +kernel
theorem dX3_findCalls_50 : decode cX3_findCalls 50 = .ok (.aload_n 0, 1) := by decide +kernel
theorem dX3_findCalls_51 : decode cX3_findCalls 51 = .ok (.getfield 21, 3) := by decide +kernel
theorem dX3_findCalls_54 : decode cX3_findCalls 54 = .ok (.iconst 2, 1) := by decide +kernel
theorem dX3_findCalls_55 : decode cX3_findCalls 55 = .ok (.iload_n 3, 1) := by decide +kernel
theorem dX3_findCalls_56 : decode cX3_findCalls 56 = .ok (.imul, 1) := by decide +kernel
theorem dX3_findCalls_57 : decode cX3_findCalls 57 = .ok (.iaload, 1) := by decide +kernel
theorem dX3_findCalls_58 : decode cX3_findCalls 58 = .ok (.invokevirtual 136, 3) := by decide +kernel
theorem dX3_findCalls_61 : decode cX3_findCalls 61 = .ok (.aload_n 0, 1) := by decide +kernel
theorem dX3_findCalls_62 : decode cX3_findCalls 62 = .ok (.aload_n 1, 1) := by decide +kernel
theorem dX3_findCalls_63 : decode cX3_findCalls 63 = .ok (.iload_n 3, 1) := by decide +kernel
theorem dX3_findCalls_64 : decode cX3_findCalls 64 = .ok (.aload_n 0, 1) := by decide +kernel
theorem dX3_findCalls_65 : decode cX3_findCalls 65 = .ok (.getfield 21, 3) := by decide +kernel
theorem dX3_findCalls_68 : decode cX3_findCalls 68 = .ok (.iconst 2, 1) := by decide +kernel
theorem dX3_findCalls_69 : decode cX3_findCalls 69 = .ok (.iload_n 3, 1) := by decide +kernel
theorem dX3_findCalls_70 : decode cX3_findCalls 70 = .ok (.imul, 1) := by decide +kernel
theorem dX3_findCalls_71 : decode cX3_findCalls 71 = .ok (.iconst 1, 1) := by decide +kernel
theorem dX3_findCalls_72 : decode cX3_findCalls 72 = .ok (.iadd, 1) := by decide +kernel
theorem dX3_findCalls_73 : decode cX3_findCalls 73 = .ok (.iaload, 1) := by decide +kernel
theorem dX3_findCalls_74 : decode cX3_findCalls 74 = .ok (.invokevirtual 136, 3) := by decide +kernel
theorem dX3_findCalls_77 : decode cX3_findCalls 77 = .ok (.iinc 2 1, 3) := by decide +kernel
theorem dX3_findCalls_80 : decode cX3_findCalls 80 = .ok (.goto (-78), 3) := by decide +kernel
theorem dX3_findCalls_83 : decode cX3_findCalls 83 = .ok (.return_, 1) := by decide +kernel
theorem dX3_addCall_0 : decode cX3_addCall 0 = .ok (.aload_n 0, 1) := by decide +kernel
theorem dX3_addCall_1 : decode cX3_addCall 1 = .ok (.iload_n 3, 1) := by decide +kernel
theorem dX3_addCall_2 : decode cX3_addCall 2 = .ok (.invokevirtual 122, 3) := by decide +kernel
theorem dX3_addCall_5 : decode cX3_addCall 5 = .ok (.ifCond .eq 4, 3) := by decide +kernel
theorem dX3_addCall_8 : decode cX3_addCall 8 = .ok (.return_, 1) := by decide +kernel
theorem dX3_addCall_9 : decode cX3_addCall 9 = .ok (.aload_n 1, 1) := by decide +kernel
theorem dX3_addCall_10 : decode cX3_addCall 10 = .ok (.getfield 140, 3) := by decide +kernel
theorem dX3_addCall_13 : decode cX3_addCall 13 = .ok (.iload_n 2, 1) := by decide +kernel
theorem dX3_addCall_14 : decode cX3_addCall 14 = .ok (.iaload, 1) := by decide +kernel
theorem dX3_addCall_15 : decode cX3_addCall 15 = .ok (.iconst (-1), 1) := by decide +kernel
theorem dX3_addCall_16 : decode cX3_addCall 16 = .ok (.if_icmp .ne 13, 3) := by decide +kernel
theorem dX3_addCall_19 : decode cX3_addCall 19 = .ok (.aload_n 1, 1) := by decide +kernel
theorem dX3_addCall_20 : decode cX3_addCall 20 = .ok (.getfield 140, 3) := by decide +kernel
theorem dX3_addCall_23 : decode cX3_addCall 23 = .ok (.iload_n 2, 1) := by decide +kernel
theorem dX3_addCall_24 : decode cX3_addCall 24 = .ok (.iload_n 3, 1) := by decide +kernel
theorem dX3_addCall_25 : decode cX3_addCall 25 = .ok (.iastore, 1) := by decide +kernel
theorem dX3_addCall_26 : decode cX3_addCall 26 = .ok (.goto 10, 3) := by decide +kernel
theorem dX3_addCall_29 : decode cX3_addCall 29 = .ok (.aload_n 1, 1) := by decide +kernel
theorem dX3_addCall_30 : decode cX3_addCall 30 = .ok (.getfield 143, 3) := by decide +kernel
theorem dX3_addCall_33 : decode cX3_addCall 33 = .ok (.iload_n 2, 1) := by decide +kernel
theorem dX3_addCall_34 : decode cX3_addCall 34 = .ok (.iload_n 3, 1) := by decide +kernel
theorem dX3_addCall_35 : decode cX3_addCall 35 = .ok (.iastore, 1) := by decide +kernel
theorem dX3_addCall_36 : decode cX3_addCall 36 = .ok (.return_, 1) := by decide +kernel
theorem dX3_tellAnswers_0 : decode cX3_tellAnswers 0 = .ok (.iconst 0, 1) := by decide +kernel
theorem dX3_tellAnswers_1 : decode cX3_tellAnswers 1 = .ok (.istore_n 2, 1) := by decide +kernel
theorem dX3_tellAnswers_2 : decode cX3_tellAnswers 2 = .ok (.iload_n 2, 1) := by decide +kernel
theorem dX3_tellAnswers_3 : decode cX3_tellAnswers 3 = .ok (.aload_n 0, 1) := by decide +kernel
theorem dX3_tellAnswers_4 : decode cX3_tellAnswers 4 = .ok (.getfield 55, 3) := by decide +kernel
theorem dX3_tellAnswers_7 : decode cX3_tellAnswers 7 = .ok (.if_icmp .ge 96, 3) := by decide +kernel
theorem dX3_tellAnswers_10 : decode cX3_tellAnswers 10 = .ok (.aload_n 0, 1) := by decide +kernel
theorem dX3_tellAnswers_11 : decode cX3_tellAnswers 11 = .ok (.getfield 17, 3) := by decide +kernel
theorem dX3_tellAnswers_14 : decode cX3_tellAnswers 14 = .ok (.iload_n 2, 1) := by decide +kernel
theorem dX3_tellAnswers_15 : decode cX3_tellAnswers 15 = .ok (.iaload, 1) := by decide +kernel
theorem dX3_tellAnswers_16 : decode cX3_tellAnswers 16 = .ok (.istore_n 3, 1) := by decide +kernel
theorem dX3_tellAnswers_17 : decode cX3_tellAnswers 17 = .ok (.aload_n 1, 1) := by decide +kernel
theorem dX3_tellAnswers_18 : decode cX3_tellAnswers 18 = .ok (.getfield 119, 3) := by decide +kernel
theorem dX3_tellAnswers_21 : decode cX3_tellAnswers 21 = .ok (.iload_n 3, 1) := by decide +kernel
theorem dX3_tellAnswers_22 : decode cX3_tellAnswers 22 = .ok (.baload, 1) := by decide +kernel
theorem dX3_tellAnswers_23 : decode cX3_tellAnswers 23 = .ok (.istore 4, 2) := by decide +kernel
theorem dX3_tellAnswers_25 : decode cX3_tellAnswers 25 = .ok (.aload_n 1, 1) := by decide +kernel
theorem dX3_tellAnswers_26 : decode cX3_tellAnswers 26 = .ok (.getfield 146, 3) := by decide +kernel
theorem dX3_tellAnswers_29 : decode cX3_tellAnswers 29 = .ok (.iload_n 3, 1) := by decide +kernel
theorem dX3_tellAnswers_30 : decode cX3_tellAnswers 30 = .ok (.iload_n 3, 1) := by decide +kernel
theorem dX3_tellAnswers_31 : decode cX3_tellAnswers 31 = .ok (.aload_n 1, 1) := by decide +kernel
theorem dX3_tellAnswers_32 : decode cX3_tellAnswers 32 = .ok (.getfield 89, 3) := by decide +kernel
theorem dX3_tellAnswers_35 : decode cX3_tellAnswers 35 = .ok (.iload_n 3, 1) := by decide +kernel
theorem dX3_tellAnswers_36 : decode cX3_tellAnswers 36 = .ok (.baload, 1) := by decide +kernel
theorem dX3_tellAnswers_37 : decode cX3_tellAnswers 37 = .ok (.ifCond .ne 7, 3) := by decide +kernel
theorem dX3_tellAnswers_40 : decode cX3_tellAnswers 40 = .ok (.iconst 1, 1) := by decide +kernel
theorem dX3_tellAnswers_41 : decode cX3_tellAnswers 41 = .ok (.goto 4, 3) := by decide +kernel
theorem dX3_tellAnswers_44 : decode cX3_tellAnswers 44 = .ok (.iconst 0, 1) := by decide +kernel
theorem dX3_tellAnswers_45 : decode cX3_tellAnswers 45 = .ok (.aload_n 1, 1) := by decide +kernel
theorem dX3_tellAnswers_46 : decode cX3_tellAnswers 46 = .ok (.getfield 62, 3) := by decide +kernel
theorem dX3_tellAnswers_49 : decode cX3_tellAnswers 49 = .ok (.iload_n 3, 1) := by decide +kernel
theorem dX3_tellAnswers_50 : decode cX3_tellAnswers 50 = .ok (.iaload, 1) := by decide +kernel
theorem dX3_tellAnswers_51 : decode cX3_tellAnswers 51 = .ok (.ifCond .eq 7, 3) := by decide +kernel
theorem dX3_tellAnswers_54 : decode cX3_tellAnswers 54 = .ok (.iconst 1, 1) := by decide +kernel
theorem dX3_tellAnswers_55 : decode cX3_tellAnswers 55 = .ok (.goto 4, 3) := by decide +kernel
theorem dX3_tellAnswers_58 : decode cX3_tellAnswers 58 = .ok (.iconst 0, 1) := by decide +kernel
theorem dX3_tellAnswers_59 : decode cX3_tellAnswers 59 = .ok (.iload 4, 2) := by decide +kernel
theorem dX3_tellAnswers_61 : decode cX3_tellAnswers 61 = .ok (.ifCond .eq 16, 3) := by decide +kernel
theorem dX3_tellAnswers_64 : decode cX3_tellAnswers 64 = .ok (.aload_n 1, 1) := by decide +kernel
theorem dX3_tellAnswers_65 : decode cX3_tellAnswers 65 = .ok (.getfield 89, 3) := by decide +kernel
theorem dX3_tellAnswers_68 : decode cX3_tellAnswers 68 = .ok (.iload_n 3, 1) := by decide +kernel
theorem dX3_tellAnswers_69 : decode cX3_tellAnswers 69 = .ok (.baload, 1) := by decide +kernel
theorem dX3_tellAnswers_70 : decode cX3_tellAnswers 70 = .ok (.ifCond .eq 7, 3) := by decide +kernel
theorem dX3_tellAnswers_73 : decode cX3_tellAnswers 73 = .ok (.iconst 1, 1) := by decide +kernel
theorem dX3_tellAnswers_74 : decode cX3_tellAnswers 74 = .ok (.goto 4, 3) := by decide +kernel
theorem dX3_tellAnswers_77 : decode cX3_tellAnswers 77 = .ok (.iconst 0, 1) := by decide +kernel
theorem dX3_tellAnswers_78 : decode cX3_tellAnswers 78 = .ok (.iload 4, 2) := by decide +kernel
theorem dX3_tellAnswers_80 : decode cX3_tellAnswers 80 = .ok (.ifCond .eq 12, 3) := by decide +kernel
theorem dX3_tellAnswers_83 : decode cX3_tellAnswers 83 = .ok (.aload_n 1, 1) := by decide +kernel
theorem dX3_tellAnswers_84 : decode cX3_tellAnswers 84 = .ok (.getfield 125, 3) := by decide +kernel
theorem dX3_tellAnswers_87 : decode cX3_tellAnswers 87 = .ok (.iload_n 3, 1) := by decide +kernel
theorem dX3_tellAnswers_88 : decode cX3_tellAnswers 88 = .ok (.iaload, 1) := by decide +kernel
theorem dX3_tellAnswers_89 : decode cX3_tellAnswers 89 = .ok (.goto 4, 3) := by decide +kernel
theorem dX3_tellAnswers_92 : decode cX3_tellAnswers 92 = .ok (.iconst 0, 1) := by decide +kernel
theorem dX3_tellAnswers_93 : decode cX3_tellAnswers 93 = .ok (.invokestatic 150, 3) := by decide +kernel
theorem dX3_tellAnswers_96 : decode cX3_tellAnswers 96 = .ok (.lastore, 1) := by decide +kernel
