theorem dX0_of_0 : decode cX0_of 0 = .ok (.iload_n 0, 1) := by decide +kernel
theorem dX0_of_1 : decode cX0_of 1 = .ok (.i2l, 1) := by decide +kernel
theorem dX0_of_2 : decode cX0_of 2 = .ok (.ldc2_w 7, 3) := by decide +kernel
theorem dX0_of_5 : decode cX0_of 5 = .ok (.lmul, 1) := by decide +kernel
theorem dX0_of_6 : decode cX0_of 6 = .ok (.iload_n 1, 1) := by decide +kernel
theorem dX0_of_7 : decode cX0_of 7 = .ok (.i2l, 1) := by decide +kernel
theorem dX0_of_8 : decode cX0_of 8 = .ok (.ldc2_w 9, 3) := by decide +kernel
theorem dX0_of_11 : decode cX0_of 11 = .ok (.lmul, 1) := by decide +kernel
theorem dX0_of_12 : decode cX0_of 12 = .ok (.ladd, 1) := by decide +kernel
theorem dX0_of_13 : decode cX0_of 13 = .ok (.ldc2_w 11, 3) := by decide +kernel
theorem dX0_of_16 : decode cX0_of 16 = .ok (.ladd, 1) := by decide +kernel
theorem dX0_of_17 : decode cX0_of 17 = .ok (.ldc2_w 13, 3) := by decide +kernel
theorem dX0_of_20 : decode cX0_of 20 = .ok (.lrem, 1) := by decide +kernel
theorem dX0_of_21 : decode cX0_of 21 = .ok (.lstore_n 2, 1) := by decide +kernel
theorem dX0_of_22 : decode cX0_of 22 = .ok (.lload_n 2, 1) := by decide +kernel
theorem dX0_of_23 : decode cX0_of 23 = .ok (.lload_n 2, 1) := by decide +kernel
theorem dX0_of_24 : decode cX0_of 24 = .ok (.ldc2_w 15, 3) := by decide +kernel
theorem dX0_of_27 : decode cX0_of 27 = .ok (.ldiv, 1) := by decide +kernel
theorem dX0_of_28 : decode cX0_of 28 = .ok (.lxor, 1) := by decide +kernel
theorem dX0_of_29 : decode cX0_of 29 = .ok (.lstore_n 2, 1) := by decide +kernel
theorem dX0_of_30 : decode cX0_of 30 = .ok (.lload_n 2, 1) := by decide +kernel
theorem dX0_of_31 : decode cX0_of 31 = .ok (.ldc2_w 17, 3) := by decide +kernel
theorem dX0_of_34 : decode cX0_of 34 = .ok (.lmul, 1) := by decide +kernel
theorem dX0_of_35 : decode cX0_of 35 = .ok (.lconst 1, 1) := by decide +kernel
theorem dX0_of_36 : decode cX0_of 36 = .ok (.ladd, 1) := by decide +kernel
theorem dX0_of_37 : decode cX0_of 37 = .ok (.ldc2_w 13, 3) := by decide +kernel
theorem dX0_of_40 : decode cX0_of 40 = .ok (.lrem, 1) := by decide +kernel
theorem dX0_of_41 : decode cX0_of 41 = .ok (.lstore_n 2, 1) := by decide +kernel
theorem dX0_of_42 : decode cX0_of 42 = .ok (.lload_n 2, 1) := by decide +kernel
theorem dX0_of_43 : decode cX0_of 43 = .ok (.lload_n 2, 1) := by decide +kernel
theorem dX0_of_44 : decode cX0_of 44 = .ok (.ldc2_w 19, 3) := by decide +kernel
theorem dX0_of_47 : decode cX0_of 47 = .ok (.ldiv, 1) := by decide +kernel
theorem dX0_of_48 : decode cX0_of 48 = .ok (.lxor, 1) := by decide +kernel
theorem dX0_of_49 : decode cX0_of 49 = .ok (.lstore_n 2, 1) := by decide +kernel
theorem dX0_of_50 : decode cX0_of 50 = .ok (.lload_n 2, 1) := by decide +kernel
theorem dX0_of_51 : decode cX0_of 51 = .ok (.l2i, 1) := by decide +kernel
theorem dX0_of_52 : decode cX0_of 52 = .ok (.ireturn, 1) := by decide +kernel
theorem dX0_tagOf_0 : decode cX0_tagOf 0 = .ok (.iload_n 0, 1) := by decide +kernel
theorem dX0_tagOf_1 : decode cX0_tagOf 1 = .ok (.sipush 16384, 3) := by decide +kernel
theorem dX0_tagOf_4 : decode cX0_tagOf 4 = .ok (.idiv, 1) := by decide +kernel
theorem dX0_tagOf_5 : decode cX0_tagOf 5 = .ok (.ireturn, 1) := by decide +kernel
theorem dX0_bodyOf_0 : decode cX0_bodyOf 0 = .ok (.iload_n 0, 1) := by decide +kernel
theorem dX0_bodyOf_1 : decode cX0_bodyOf 1 = .ok (.sipush 16384, 3) := by decide +kernel
theorem dX0_bodyOf_4 : decode cX0_bodyOf 4 = .ok (.irem, 1) := by decide +kernel
theorem dX0_bodyOf_5 : decode cX0_bodyOf 5 = .ok (.ireturn, 1) := by decide +kernel
theorem dX0_homeOf_0 : decode cX0_homeOf 0 = .ok (.iload_n 0, 1) := by decide +kernel
theorem dX0_homeOf_1 : decode cX0_homeOf 1 = .ok (.sipush 16384, 3) := by decide +kernel
theorem dX0_homeOf_4 : decode cX0_homeOf 4 = .ok (.irem, 1) := by decide +kernel
theorem dX0_homeOf_5 : decode cX0_homeOf 5 = .ok (.iconst 1, 1) := by decide +kernel
theorem dX0_homeOf_6 : decode cX0_homeOf 6 = .ok (.iload_n 1, 1) := by decide +kernel
theorem dX0_homeOf_7 : decode cX0_homeOf 7 = .ok (.ishl, 1) := by decide +kernel
theorem dX0_homeOf_8 : decode cX0_homeOf 8 = .ok (.iconst 1, 1) := by decide +kernel
theorem dX0_homeOf_9 : decode cX0_homeOf 9 = .ok (.isub, 1) := by decide +kernel
theorem dX0_homeOf_10 : decode cX0_homeOf 10 = .ok (.iand, 1) := by decide +kernel
theorem dX0_homeOf_11 : decode cX0_homeOf 11 = .ok (.ireturn, 1) := by decide +kernel
theorem dX0_partner_0 : decode cX0_partner 0 = .ok (.bipush 37, 2) := by decide +kernel
theorem dX0_partner_2 : decode cX0_partner 2 = .ok (.iload_n 1, 1) := by decide +kernel
theorem dX0_partner_3 : decode cX0_partner 3 = .ok (.imul, 1) := by decide +kernel
theorem dX0_partner_4 : decode cX0_partner 4 = .ok (.bipush 11, 2) := by decide +kernel
theorem dX0_partner_6 : decode cX0_partner 6 = .ok (.iadd, 1) := by decide +kernel
theorem dX0_partner_7 : decode cX0_partner 7 = .ok (.bipush 64, 2) := by decide +kernel
theorem dX0_partner_9 : decode cX0_partner 9 = .ok (.irem, 1) := by decide +kernel
theorem dX0_partner_10 : decode cX0_partner 10 = .ok (.iconst 1, 1) := by decide +kernel
theorem dX0_partner_11 : decode cX0_partner 11 = .ok (.ior, 1) := by decide +kernel
theorem dX0_partner_12 : decode cX0_partner 12 = .ok (.istore_n 3, 1) := by decide +kernel
theorem dX0_partner_13 : decode cX0_partner 13 = .ok (.iload_n 0, 1) := by decide +kernel
theorem dX0_partner_14 : decode cX0_partner 14 = .ok (.iload_n 3, 1) := by decide +kernel
theorem dX0_partner_15 : decode cX0_partner 15 = .ok (.iconst 1, 1) := by decide +kernel
theorem dX0_partner_16 : decode cX0_partner 16 = .ok (.iload_n 2, 1) := by decide +kernel
theorem dX0_partner_17 : decode cX0_partner 17 = .ok (.ishl, 1) := by decide +kernel
theorem dX0_partner_18 : decode cX0_partner 18 = .ok (.iconst 1, 1) := by decide +kernel
theorem dX0_partner_19 : decode cX0_partner 19 = .ok (.isub, 1) := by decide +kernel
theorem dX0_partner_20 : decode cX0_partner 20 = .ok (.iand, 1) := by decide +kernel
theorem dX0_partner_21 : decode cX0_partner 21 = .ok (.ixor, 1) := by decide +kernel
theorem dX0_partner_22 : decode cX0_partner 22 = .ok (.ireturn, 1) := by decide +kernel
theorem dX0_printOf_0 : decode cX0_printOf 0 = .ok (.iload_n 0, 1) := by decide +kernel
theorem dX0_printOf_1 : decode cX0_printOf 1 = .ok (.sipush 16384, 3) := by decide +kernel
theorem dX0_printOf_4 : decode cX0_printOf 4 = .ok (.irem, 1) := by decide +kernel
theorem dX0_printOf_5 : decode cX0_printOf 5 = .ok (.iload_n 1, 1) := by decide +kernel
theorem dX0_printOf_6 : decode cX0_printOf 6 = .ok (.ishr, 1) := by decide +kernel
theorem dX0_printOf_7 : decode cX0_printOf 7 = .ok (.iconst 1, 1) := by decide +kernel
theorem dX0_printOf_8 : decode cX0_printOf 8 = .ok (.iload_n 2, 1) := by decide +kernel
theorem dX0_printOf_9 : decode cX0_printOf 9 = .ok (.ishl, 1) := by decide +kernel
theorem dX0_printOf_10 : decode cX0_printOf 10 = .ok (.iconst 1, 1) := by decide +kernel
theorem dX0_printOf_11 : decode cX0_printOf 11 = .ok (.isub, 1) := by decide +kernel
theorem dX0_printOf_12 : decode cX0_printOf 12 = .ok (.iand, 1) := by decide +kernel
theorem dX0_printOf_13 : decode cX0_printOf 13 = .ok (.ireturn, 1) := by decide +kernel
theorem dX1_of_0 : decode cX1_of 0 = .ok (.iload_n 0, 1) := by decide +kernel
theorem dX1_of_1 : decode cX1_of 1 = .ok (.iload_n 1, 1) := by decide +kernel
theorem dX1_of_2 : decode cX1_of 2 = .ok (.invokestatic 9, 3) := by decide +kernel
theorem dX1_of_5 : decode cX1_of 5 = .ok (.istore_n 3, 1) := by decide +kernel
theorem dX1_of_6 : decode cX1_of 6 = .ok (.iload_n 0, 1) := by decide +kernel
theorem dX1_of_7 : decode cX1_of 7 = .ok (.invokestatic 15, 3) := by decide +kernel
theorem dX1_of_10 : decode cX1_of 10 = .ok (.iload_n 3, 1) := by decide +kernel
theorem dX1_of_11 : decode cX1_of 11 = .ok (.iload_n 2, 1) := by decide +kernel
theorem dX1_of_12 : decode cX1_of 12 = .ok (.iload_n 0, 1) := by decide +kernel
theorem dX1_of_13 : decode cX1_of 13 = .ok (.iload_n 1, 1) := by decide +kernel
theorem dX1_of_14 : decode cX1_of 14 = .ok (.iload_n 2, 1) := by decide +kernel
theorem dX1_of_15 : decode cX1_of 15 = .ok (.invokestatic 19, 3) := by decide +kernel
theorem dX1_of_18 : decode cX1_of 18 = .ok (.invokestatic 23, 3) := by decide +kernel
theorem dX1_of_21 : decode cX1_of 21 = .ok (.ireturn, 1) := by decide +kernel
theorem dX1_tagOf_0 : decode cX1_tagOf 0 = .ok (.iload_n 0, 1) := by decide +kernel
theorem dX1_tagOf_1 : decode cX1_tagOf 1 = .ok (.bipush 63, 2) := by decide +kernel
theorem dX1_tagOf_3 : decode cX1_tagOf 3 = .ok (.iand, 1) := by decide +kernel
theorem dX1_tagOf_4 : decode cX1_tagOf 4 = .ok (.ireturn, 1) := by decide +kernel
theorem dX1_homeOf_0 : decode cX1_homeOf 0 = .ok (.iload_n 0, 1) := by decide +kernel
theorem dX1_homeOf_1 : decode cX1_homeOf 1 = .ok (.bipush 6, 2) := by decide +kernel
theorem dX1_homeOf_3 : decode cX1_homeOf 3 = .ok (.ishr, 1) := by decide +kernel
theorem dX1_homeOf_4 : decode cX1_homeOf 4 = .ok (.bipush 63, 2) := by decide +kernel
theorem dX1_homeOf_6 : decode cX1_homeOf 6 = .ok (.iand, 1) := by decide +kernel
theorem dX1_homeOf_7 : decode cX1_homeOf 7 = .ok (.ireturn, 1) := by decide +kernel
theorem dX1_lengthOf_0 : decode cX1_lengthOf 0 = .ok (.iload_n 0, 1) := by decide +kernel
theorem dX1_lengthOf_1 : decode cX1_lengthOf 1 = .ok (.bipush 12, 2) := by decide +kernel
theorem dX1_lengthOf_3 : decode cX1_lengthOf 3 = .ok (.ishr, 1) := by decide +kernel
theorem dX1_lengthOf_4 : decode cX1_lengthOf 4 = .ok (.bipush 15, 2) := by decide +kernel
theorem dX1_lengthOf_6 : decode cX1_lengthOf 6 = .ok (.iand, 1) := by decide +kernel
theorem dX1_lengthOf_7 : decode cX1_lengthOf 7 = .ok (.ireturn, 1) := by decide +kernel
theorem dX1_printOf_0 : decode cX1_printOf 0 = .ok (.iload_n 0, 1) := by decide +kernel
theorem dX1_printOf_1 : decode cX1_printOf 1 = .ok (.bipush 16, 2) := by decide +kernel
theorem dX1_printOf_3 : decode cX1_printOf 3 = .ok (.ishr, 1) := by decide +kernel
theorem dX1_printOf_4 : decode cX1_printOf 4 = .ok (.sipush 255, 3) := by decide +kernel
theorem dX1_printOf_7 : decode cX1_printOf 7 = .ok (.iand, 1) := by decide +kernel
theorem dX1_printOf_8 : decode cX1_printOf 8 = .ok (.ireturn, 1) := by decide +kernel
theorem dX1_lengthIfMatching_0 : decode cX1_lengthIfMatching 0 = .ok (.iload_n 0, 1) := by decide +kernel
theorem dX1_lengthIfMatching_1 : decode cX1_lengthIfMatching 1 = .ok (.iconst (-1), 1) := by decide +kernel
theorem dX1_lengthIfMatching_2 : decode cX1_lengthIfMatching 2 = .ok (.if_icmp .eq 26, 3) := by decide +kernel
theorem dX1_lengthIfMatching_5 : decode cX1_lengthIfMatching 5 = .ok (.iload_n 0, 1) := by decide +kernel
theorem dX1_lengthIfMatching_6 : decode cX1_lengthIfMatching 6 = .ok (.invokestatic 29, 3) := by decide +kernel
theorem dX1_lengthIfMatching_9 : decode cX1_lengthIfMatching 9 = .ok (.iload_n 1, 1) := by decide +kernel
theorem dX1_lengthIfMatching_10 : decode cX1_lengthIfMatching 10 = .ok (.invokestatic 15, 3) := by decide +kernel
theorem dX1_lengthIfMatching_13 : decode cX1_lengthIfMatching 13 = .ok (.if_icmp .ne 15, 3) := by decide +kernel
theorem dX1_lengthIfMatching_16 : decode cX1_lengthIfMatching 16 = .ok (.iload_n 0, 1) := by decide +kernel
theorem dX1_lengthIfMatching_17 : decode cX1_lengthIfMatching 17 = .ok (.invokestatic 30, 3) := by decide +kernel
theorem dX1_lengthIfMatching_20 : decode cX1_lengthIfMatching 20 = .ok (.iload_n 1, 1) := by decide +kernel
theorem dX1_lengthIfMatching_21 : decode cX1_lengthIfMatching 21 = .ok (.iload_n 2, 1) := by decide +kernel
theorem dX1_lengthIfMatching_22 : decode cX1_lengthIfMatching 22 = .ok (.invokestatic 9, 3) := by decide +kernel
theorem dX1_lengthIfMatching_25 : decode cX1_lengthIfMatching 25 = .ok (.if_icmp .eq 5, 3) := by decide +kernel
theorem dX1_lengthIfMatching_28 : decode cX1_lengthIfMatching 28 = .ok (.iconst (-1), 1) := by decide +kernel
theorem dX1_lengthIfMatching_29 : decode cX1_lengthIfMatching 29 = .ok (.ireturn, 1) := by decide +kernel
theorem dX1_lengthIfMatching_30 : decode cX1_lengthIfMatching 30 = .ok (.iload_n 0, 1) := by decide +kernel
theorem dX1_lengthIfMatching_31 : decode cX1_lengthIfMatching 31 = .ok (.invokestatic 32, 3) := by decide +kernel
theorem dX1_lengthIfMatching_34 : decode cX1_lengthIfMatching 34 = .ok (.istore_n 3, 1) := by decide +kernel
theorem dX1_lengthIfMatching_35 : decode cX1_lengthIfMatching 35 = .ok (.iload_n 0, 1) := by decide +kernel
theorem dX1_lengthIfMatching_36 : decode cX1_lengthIfMatching 36 = .ok (.invokestatic 35, 3) := by decide +kernel
theorem dX1_lengthIfMatching_39 : decode cX1_lengthIfMatching 39 = .ok (.iload_n 1, 1) := by decide +kernel
theorem dX1_lengthIfMatching_40 : decode cX1_lengthIfMatching 40 = .ok (.iload_n 2, 1) := by decide +kernel
theorem dX1_lengthIfMatching_41 : decode cX1_lengthIfMatching 41 = .ok (.iload_n 3, 1) := by decide +kernel
theorem dX1_lengthIfMatching_42 : decode cX1_lengthIfMatching 42 = .ok (.invokestatic 19, 3) := by decide +kernel
theorem dX1_lengthIfMatching_45 : decode cX1_lengthIfMatching 45 = .ok (.if_icmp .ne 7, 3) := by decide +kernel
theorem dX1_lengthIfMatching_48 : decode cX1_lengthIfMatching 48 = .ok (.iload_n 3, 1) := by decide +kernel
theorem dX1_lengthIfMatching_49 : decode cX1_lengthIfMatching 49 = .ok (.goto 4, 3) := by decide +kernel
theorem dX1_lengthIfMatching_52 : decode cX1_lengthIfMatching 52 = .ok (.iconst (-1), 1) := by decide +kernel
theorem dX1_lengthIfMatching_53 : decode cX1_lengthIfMatching 53 = .ok (.ireturn, 1) := by decide +kernel
theorem dX1_doubled_0 : decode cX1_doubled 0 = .ok (.iload_n 0, 1) := by decide +kernel
theorem dX1_doubled_1 : decode cX1_doubled 1 = .ok (.invokestatic 35, 3) := by decide +kernel
theorem dX1_doubled_4 : decode cX1_doubled 4 = .ok (.istore_n 2, 1) := by decide +kernel
theorem dX1_doubled_5 : decode cX1_doubled 5 = .ok (.iload_n 0, 1) := by decide +kernel
theorem dX1_doubled_6 : decode cX1_doubled 6 = .ok (.invokestatic 30, 3) := by decide +kernel
theorem dX1_doubled_9 : decode cX1_doubled 9 = .ok (.iload_n 2, 1) := by decide +kernel
theorem dX1_doubled_10 : decode cX1_doubled 10 = .ok (.iconst 1, 1) := by decide +kernel
theorem dX1_doubled_11 : decode cX1_doubled 11 = .ok (.iand, 1) := by decide +kernel
theorem dX1_doubled_12 : decode cX1_doubled 12 = .ok (.iload_n 1, 1) := by decide +kernel
theorem dX1_doubled_13 : decode cX1_doubled 13 = .ok (.ishl, 1) := by decide +kernel
theorem dX1_doubled_14 : decode cX1_doubled 14 = .ok (.iadd, 1) := by decide +kernel
theorem dX1_doubled_15 : decode cX1_doubled 15 = .ok (.istore_n 3, 1) := by decide +kernel
theorem dX1_doubled_16 : decode cX1_doubled 16 = .ok (.iload_n 0, 1) := by decide +kernel
theorem dX1_doubled_17 : decode cX1_doubled 17 = .ok (.invokestatic 29, 3) := by decide +kernel
theorem dX1_doubled_20 : decode cX1_doubled 20 = .ok (.iload_n 3, 1) := by decide +kernel
theorem dX1_doubled_21 : decode cX1_doubled 21 = .ok (.iload_n 0, 1) := by decide +kernel
theorem dX1_doubled_22 : decode cX1_doubled 22 = .ok (.invokestatic 32, 3) := by decide +kernel
theorem dX1_doubled_25 : decode cX1_doubled 25 = .ok (.iconst 1, 1) := by decide +kernel
theorem dX1_doubled_26 : decode cX1_doubled 26 = .ok (.isub, 1) := by decide +kernel
theorem dX1_doubled_27 : decode cX1_doubled 27 = .ok (.iload_n 2, 1) := by decide +kernel
theorem dX1_doubled_28 : decode cX1_doubled 28 = .ok (.iconst 1, 1) := by decide +kernel
theorem dX1_doubled_29 : decode cX1_doubled 29 = .ok (.ishr, 1) := by decide +kernel
theorem dX1_doubled_30 : decode cX1_doubled 30 = .ok (.invokestatic 23, 3) := by decide +kernel
theorem dX1_doubled_33 : decode cX1_doubled 33 = .ok (.ireturn, 1) := by decide +kernel
theorem dX1_pack_0 : decode cX1_pack 0 = .ok (.iload_n 0, 1) := by decide +kernel
theorem dX1_pack_1 : decode cX1_pack 1 = .ok (.iload_n 1, 1) := by decide +kernel
theorem dX1_pack_2 : decode cX1_pack 2 = .ok (.bipush 6, 2) := by decide +kernel
theorem dX1_pack_4 : decode cX1_pack 4 = .ok (.ishl, 1) := by decide +kernel
theorem dX1_pack_5 : decode cX1_pack 5 = .ok (.ior, 1) := by decide +kernel
theorem dX1_pack_6 : decode cX1_pack 6 = .ok (.iload_n 2, 1) := by decide +kernel
theorem dX1_pack_7 : decode cX1_pack 7 = .ok (.bipush 12, 2) := by decide +kernel
theorem dX1_pack_9 : decode cX1_pack 9 = .ok (.ishl, 1) := by decide +kernel
theorem dX1_pack_10 : decode cX1_pack 10 = .ok (.ior, 1) := by decide +kernel
theorem dX1_pack_11 : decode cX1_pack 11 = .ok (.iload_n 3, 1) := by decide +kernel
theorem dX1_pack_12 : decode cX1_pack 12 = .ok (.bipush 16, 2) := by decide +kernel
theorem dX1_pack_14 : decode cX1_pack 14 = .ok (.ishl, 1) := by decide +kernel
theorem dX1_pack_15 : decode cX1_pack 15 = .ok (.ior, 1) := by decide +kernel
theorem dX1_pack_16 : decode cX1_pack 16 = .ok (.ireturn, 1) := by decide +kernel
theorem dX2_init_0 : decode cX2_init 0 = .ok (.aload_n 0, 1) := by decide +kernel
theorem dX2_init_1 : decode cX2_init 1 = .ok (.invokespecial 3, 3) := by decide +kernel
theorem dX2_init_4 : decode cX2_init 4 = .ok (.aload_n 0, 1) := by decide +kernel
theorem dX2_init_5 : decode cX2_init 5 = .ok (.iconst 2, 1) := by decide +kernel
theorem dX2_init_6 : decode cX2_init 6 = .ok (.putfield 9, 3) := by decide +kernel
theorem dX2_init_9 : decode cX2_init 9 = .ok (.aload_n 0, 1) := by decide +kernel
theorem dX2_init_10 : decode cX2_init 10 = .ok (.iconst 2, 1) := by decide +kernel
theorem dX2_init_11 : decode cX2_init 11 = .ok (.putfield 15, 3) := by decide +kernel
theorem dX2_init_14 : decode cX2_init 14 = .ok (.aload_n 0, 1) := by decide +kernel
theorem dX2_init_15 : decode cX2_init 15 = .ok (.iconst 5, 1) := by decide +kernel
theorem dX2_init_16 : decode cX2_init 16 = .ok (.putfield 18, 3) := by decide +kernel
theorem dX2_init_19 : decode cX2_init 19 = .ok (.aload_n 0, 1) := by decide +kernel
theorem dX2_init_20 : decode cX2_init 20 = .ok (.iconst 0, 1) := by decide +kernel
theorem dX2_init_21 : decode cX2_init 21 = .ok (.putfield 21, 3) := by decide +kernel
theorem dX2_init_24 : decode cX2_init 24 = .ok (.aload_n 0, 1) := by decide +kernel
theorem dX2_init_25 : decode cX2_init 25 = .ok (.bipush 10, 2) := by decide +kernel
theorem dX2_init_27 : decode cX2_init 27 = .ok (.putfield 24, 3) := by decide +kernel
theorem dX2_init_30 : decode cX2_init 30 = .ok (.aload_n 0, 1) := by decide +kernel
theorem dX2_init_31 : decode cX2_init 31 = .ok (.sipush 256, 3) := by decide +kernel
theorem dX2_init_34 : decode cX2_init 34 = .ok (.newarray .int, 2) := by decide +kernel
theorem dX2_init_36 : decode cX2_init 36 = .ok (.putfield 27, 3) := by decide +kernel
theorem dX2_init_39 : decode cX2_init 39 = .ok (.aload_n 0, 1) := by decide +kernel
theorem dX2_init_40 : decode cX2_init 40 = .ok (.iconst 3, 1) := by decide +kernel
theorem dX2_init_41 : decode cX2_init 41 = .ok (.newarray .int, 2) := by decide +kernel
theorem dX2_init_43 : decode cX2_init 43 = .ok (.putfield 31, 3) := by decide +kernel
theorem dX2_init_46 : decode cX2_init 46 = .ok (.aload_n 0, 1) := by decide +kernel
theorem dX2_init_47 : decode cX2_init 47 = .ok (.new 34, 3) := by decide +kernel
theorem dX2_init_50 : decode cX2_init 50 = .ok (.dup, 1) := by decide +kernel
theorem dX2_init_51 : decode cX2_init 51 = .ok (.invokespecial 36, 3) := by decide +kernel
theorem dX2_init_54 : decode cX2_init 54 = .ok (.putfield 37, 3) := by decide +kernel
theorem dX2_init_57 : decode cX2_init 57 = .ok (.aload_n 0, 1) := by decide +kernel
theorem dX2_init_58 : decode cX2_init 58 = .ok (.new 41, 3) := by decide +kernel
theorem dX2_init_61 : decode cX2_init 61 = .ok (.dup, 1) := by decide +kernel
theorem dX2_init_62 : decode cX2_init 62 = .ok (.invokespecial 43, 3) := by decide +kernel
theorem dX2_init_65 : decode cX2_init 65 = .ok (.putfield 44, 3) := by decide +kernel
theorem dX2_init_68 : decode cX2_init 68 = .ok (.aload_n 0, 1) := by decide +kernel
theorem dX2_init_69 : decode cX2_init 69 = .ok (.new 48, 3) := by decide +kernel
theorem dX2_init_72 : decode cX2_init 72 = .ok (.dup, 1) := by decide +kernel
theorem dX2_init_73 : decode cX2_init 73 = .ok (.invokespecial 50, 3) := by decide +kernel
theorem dX2_init_76 : decode cX2_init 76 = .ok (.putfield 51, 3) := by decide +kernel
theorem dX2_init_79 : decode cX2_init 79 = .ok (.iconst 0, 1) := by decide +kernel
theorem dX2_init_80 : decode cX2_init 80 = .ok (.istore_n 1, 1) := by decide +kernel
theorem dX2_init_81 : decode cX2_init 81 = .ok (.iload_n 1, 1) := by decide +kernel
theorem dX2_init_82 : decode cX2_init 82 = .ok (.aload_n 0, 1) := by decide +kernel
theorem dX2_init_83 : decode cX2_init 83 = .ok (.getfield 27, 3) := by decide +kernel
theorem dX2_init_86 : decode cX2_init 86 = .ok (.arraylength, 1) := by decide +kernel
theorem dX2_init_87 : decode cX2_init 87 = .ok (.if_icmp .ge 16, 3) := by decide +kernel
theorem dX2_init_90 : decode cX2_init 90 = .ok (.aload_n 0, 1) := by decide +kernel
theorem dX2_init_91 : decode cX2_init 91 = .ok (.getfield 27, 3) := by decide +kernel
theorem dX2_init_94 : decode cX2_init 94 = .ok (.iload_n 1, 1) := by decide +kernel
theorem dX2_init_95 : decode cX2_init 95 = .ok (.iconst (-1), 1) := by decide +kernel
theorem dX2_init_96 : decode cX2_init 96 = .ok (.iastore, 1) := by decide +kernel
theorem dX2_init_97 : decode cX2_init 97 = .ok (.iinc 1 1, 3) := by decide +kernel
theorem dX2_init_100 : decode cX2_init 100 = .ok (.goto (-19), 3) := by decide +kernel
theorem dX2_init_103 : decode cX2_init 103 = .ok (.return_, 1) := by decide +kernel
theorem dX2_copyFrom_0 : decode cX2_copyFrom 0 = .ok (.aload_n 0, 1) := by decide +kernel
theorem dX2_copyFrom_1 : decode cX2_copyFrom 1 = .ok (.aload_n 1, 1) := by decide +kernel
theorem dX2_copyFrom_2 : decode cX2_copyFrom 2 = .ok (.getfield 9, 3) := by decide +kernel
theorem dX2_copyFrom_5 : decode cX2_copyFrom 5 = .ok (.putfield 9, 3) := by decide +kernel
theorem dX2_copyFrom_8 : decode cX2_copyFrom 8 = .ok (.aload_n 0, 1) := by decide +kernel
theorem dX2_copyFrom_9 : decode cX2_copyFrom 9 = .ok (.aload_n 1, 1) := by decide +kernel
theorem dX2_copyFrom_10 : decode cX2_copyFrom 10 = .ok (.getfield 15, 3) := by decide +kernel
theorem dX2_copyFrom_13 : decode cX2_copyFrom 13 = .ok (.putfield 15, 3) := by decide +kernel
theorem dX2_copyFrom_16 : decode cX2_copyFrom 16 = .ok (.aload_n 0, 1) := by decide +kernel
theorem dX2_copyFrom_17 : decode cX2_copyFrom 17 = .ok (.aload_n 1, 1) := by decide +kernel
theorem dX2_copyFrom_18 : decode cX2_copyFrom 18 = .ok (.getfield 18, 3) := by decide +kernel
theorem dX2_copyFrom_21 : decode cX2_copyFrom 21 = .ok (.putfield 18, 3) := by decide +kernel
theorem dX2_copyFrom_24 : decode cX2_copyFrom 24 = .ok (.aload_n 0, 1) := by decide +kernel
theorem dX2_copyFrom_25 : decode cX2_copyFrom 25 = .ok (.aload_n 1, 1) := by decide +kernel
theorem dX2_copyFrom_26 : decode cX2_copyFrom 26 = .ok (.getfield 21, 3) := by decide +kernel
theorem dX2_copyFrom_29 : decode cX2_copyFrom 29 = .ok (.putfield 21, 3) := by decide +kernel
theorem dX2_copyFrom_32 : decode cX2_copyFrom 32 = .ok (.aload_n 0, 1) := by decide +kernel
theorem dX2_copyFrom_33 : decode cX2_copyFrom 33 = .ok (.aload_n 1, 1) := by decide +kernel
theorem dX2_copyFrom_34 : decode cX2_copyFrom 34 = .ok (.getfield 24, 3) := by decide +kernel
theorem dX2_copyFrom_37 : decode cX2_copyFrom 37 = .ok (.putfield 24, 3) := by decide +kernel
theorem dX2_copyFrom_40 : decode cX2_copyFrom 40 = .ok (.iconst 0, 1) := by decide +kernel
theorem dX2_copyFrom_41 : decode cX2_copyFrom 41 = .ok (.istore_n 2, 1) := by decide +kernel
theorem dX2_copyFrom_42 : decode cX2_copyFrom 42 = .ok (.iload_n 2, 1) := by decide +kernel
theorem dX2_copyFrom_43 : decode cX2_copyFrom 43 = .ok (.aload_n 0, 1) := by decide +kernel
theorem dX2_copyFrom_44 : decode cX2_copyFrom 44 = .ok (.getfield 27, 3) := by decide +kernel
theorem dX2_copyFrom_47 : decode cX2_copyFrom 47 = .ok (.arraylength, 1) := by decide +kernel
theorem dX2_copyFrom_48 : decode cX2_copyFrom 48 = .ok (.if_icmp .ge 30, 3) := by decide +kernel
theorem dX2_copyFrom_51 : decode cX2_copyFrom 51 = .ok (.iload_n 2, 1) := by decide +kernel
theorem dX2_copyFrom_52 : decode cX2_copyFrom 52 = .ok (.aload_n 1, 1) := by decide +kernel
theorem dX2_copyFrom_53 : decode cX2_copyFrom 53 = .ok (.getfield 27, 3) := by decide +kernel
theorem dX2_copyFrom_56 : decode cX2_copyFrom 56 = .ok (.arraylength, 1) := by decide +kernel
theorem dX2_copyFrom_57 : decode cX2_copyFrom 57 = .ok (.if_icmp .ge 21, 3) := by decide +kernel
theorem dX2_copyFrom_60 : decode cX2_copyFrom 60 = .ok (.aload_n 0, 1) := by decide +kernel
theorem dX2_copyFrom_61 : decode cX2_copyFrom 61 = .ok (.getfield 27, 3) := by decide +kernel
theorem dX2_copyFrom_64 : decode cX2_copyFrom 64 = .ok (.iload_n 2, 1) := by decide +kernel
theorem dX2_copyFrom_65 : decode cX2_copyFrom 65 = .ok (.aload_n 1, 1) := by decide +kernel
theorem dX2_copyFrom_66 : decode cX2_copyFrom 66 = .ok (.getfield 27, 3) := by decide +kernel
theorem dX2_copyFrom_69 : decode cX2_copyFrom 69 = .ok (.iload_n 2, 1) := by decide +kernel
theorem dX2_copyFrom_70 : decode cX2_copyFrom 70 = .ok (.iaload, 1) := by decide +kernel
theorem dX2_copyFrom_71 : decode cX2_copyFrom 71 = .ok (.iastore, 1) := by decide +kernel
theorem dX2_copyFrom_72 : decode cX2_copyFrom 72 = .ok (.iinc 2 1, 3) := by decide +kernel
theorem dX2_copyFrom_75 : decode cX2_copyFrom 75 = .ok (.goto (-33), 3) := by decide +kernel
theorem dX2_copyFrom_78 : decode cX2_copyFrom 78 = .ok (.iconst 0, 1) := by decide +kernel
theorem dX2_copyFrom_79 : decode cX2_copyFrom 79 = .ok (.istore_n 2, 1) := by decide +kernel
theorem dX2_copyFrom_80 : decode cX2_copyFrom 80 = .ok (.iload_n 2, 1) := by decide +kernel
theorem dX2_copyFrom_81 : decode cX2_copyFrom 81 = .ok (.aload_n 0, 1) := by decide +kernel
theorem dX2_copyFrom_82 : decode cX2_copyFrom 82 = .ok (.getfield 31, 3) := by decide +kernel
theorem dX2_copyFrom_85 : decode cX2_copyFrom 85 = .ok (.arraylength, 1) := by decide +kernel
theorem dX2_copyFrom_86 : decode cX2_copyFrom 86 = .ok (.if_icmp .ge 30, 3) := by decide +kernel
theorem dX2_copyFrom_89 : decode cX2_copyFrom 89 = .ok (.iload_n 2, 1) := by decide +kernel
theorem dX2_copyFrom_90 : decode cX2_copyFrom 90 = .ok (.aload_n 1, 1) := by decide +kernel
theorem dX2_copyFrom_91 : decode cX2_copyFrom 91 = .ok (.getfield 31, 3) := by decide +kernel
theorem dX2_copyFrom_94 : decode cX2_copyFrom 94 = .ok (.arraylength, 1) := by decide +kernel
theorem dX2_copyFrom_95 : decode cX2_copyFrom 95 = .ok (.if_icmp .ge 21, 3) := by decide +kernel
theorem dX2_copyFrom_98 : decode cX2_copyFrom 98 = .ok (.aload_n 0, 1) := by decide +kernel
theorem dX2_copyFrom_99 : decode cX2_copyFrom 99 = .ok (.getfield 31, 3) := by decide +kernel
theorem dX2_copyFrom_102 : decode cX2_copyFrom 102 = .ok (.iload_n 2, 1) := by decide +kernel
theorem dX2_copyFrom_103 : decode cX2_copyFrom 103 = .ok (.aload_n 1, 1) := by decide +kernel
theorem dX2_copyFrom_104 : decode cX2_copyFrom 104 = .ok (.getfield 31, 3) := by decide +kernel
theorem dX2_copyFrom_107 : decode cX2_copyFrom 107 = .ok (.iload_n 2, 1) := by decide +kernel
theorem dX2_copyFrom_108 : decode cX2_copyFrom 108 = .ok (.iaload, 1) := by decide +kernel
theorem dX2_copyFrom_109 : decode cX2_copyFrom 109 = .ok (.iastore, 1) := by decide +kernel
theorem dX2_copyFrom_110 : decode cX2_copyFrom 110 = .ok (.iinc 2 1, 3) := by decide +kernel
theorem dX2_copyFrom_113 : decode cX2_copyFrom 113 = .ok (.goto (-33), 3) := by decide +kernel
theorem dX2_copyFrom_116 : decode cX2_copyFrom 116 = .ok (.aload_n 0, 1) := by decide +kernel
theorem dX2_copyFrom_117 : decode cX2_copyFrom 117 = .ok (.aload_n 1, 1) := by decide +kernel
theorem dX2_copyFrom_118 : decode cX2_copyFrom 118 = .ok (.getfield 55, 3) := by decide +kernel
theorem dX2_copyFrom_121 : decode cX2_copyFrom 121 = .ok (.putfield 55, 3) := by decide +kernel
theorem dX2_copyFrom_124 : decode cX2_copyFrom 124 = .ok (.aload_n 0, 1) := by decide +kernel
theorem dX2_copyFrom_125 : decode cX2_copyFrom 125 = .ok (.getfield 37, 3) := by decide +kernel
theorem dX2_copyFrom_128 : decode cX2_copyFrom 128 = .ok (.aload_n 1, 1) := by decide +kernel
theorem dX2_copyFrom_129 : decode cX2_copyFrom 129 = .ok (.getfield 37, 3) := by decide +kernel
theorem dX2_copyFrom_132 : decode cX2_copyFrom 132 = .ok (.invokevirtual 58, 3) := by decide +kernel
theorem dX2_copyFrom_135 : decode cX2_copyFrom 135 = .ok (.return_, 1) := by decide +kernel
theorem dX2_bucketCount_0 : decode cX2_bucketCount 0 = .ok (.iconst 1, 1) := by decide +kernel
theorem dX2_bucketCount_1 : decode cX2_bucketCount 1 = .ok (.aload_n 0, 1) := by decide +kernel
theorem dX2_bucketCount_2 : decode cX2_bucketCount 2 = .ok (.getfield 9, 3) := by decide +kernel
theorem dX2_bucketCount_5 : decode cX2_bucketCount 5 = .ok (.ishl, 1) := by decide +kernel
theorem dX2_bucketCount_6 : decode cX2_bucketCount 6 = .ok (.ireturn, 1) := by decide +kernel
theorem dX2_slotCount_0 : decode cX2_slotCount 0 = .ok (.aload_n 0, 1) := by decide +kernel
theorem dX2_slotCount_1 : decode cX2_slotCount 1 = .ok (.getfield 15, 3) := by decide +kernel
theorem dX2_slotCount_4 : decode cX2_slotCount 4 = .ok (.ireturn, 1) := by decide +kernel
theorem dX2_stashSize_0 : decode cX2_stashSize 0 = .ok (.aload_n 0, 1) := by decide +kernel
theorem dX2_stashSize_1 : decode cX2_stashSize 1 = .ok (.getfield 55, 3) := by decide +kernel
theorem dX2_stashSize_4 : decode cX2_stashSize 4 = .ok (.ireturn, 1) := by decide +kernel
theorem dX2_keyCount_0 : decode cX2_keyCount 0 = .ok (.aload_n 0, 1) := by decide +kernel
theorem dX2_keyCount_1 : decode cX2_keyCount 1 = .ok (.getfield 37, 3) := by decide +kernel
theorem dX2_keyCount_4 : decode cX2_keyCount 4 = .ok (.invokevirtual 62, 3) := by decide +kernel
theorem dX2_keyCount_7 : decode cX2_keyCount 7 = .ok (.ireturn, 1) := by decide +kernel
theorem dX2_keyAt_0 : decode cX2_keyAt 0 = .ok (.aload_n 0, 1) := by decide +kernel
theorem dX2_keyAt_1 : decode cX2_keyAt 1 = .ok (.getfield 37, 3) := by decide +kernel
theorem dX2_keyAt_4 : decode cX2_keyAt 4 = .ok (.iload_n 1, 1) := by decide +kernel
theorem dX2_keyAt_5 : decode cX2_keyAt 5 = .ok (.invokevirtual 66, 3) := by decide +kernel
theorem dX2_keyAt_8 : decode cX2_keyAt 8 = .ok (.ireturn, 1) := by decide +kernel
theorem dX2_isPresent_0 : decode cX2_isPresent 0 = .ok (.aload_n 0, 1) := by decide +kernel
theorem dX2_isPresent_1 : decode cX2_isPresent 1 = .ok (.getfield 37, 3) := by decide +kernel
theorem dX2_isPresent_4 : decode cX2_isPresent 4 = .ok (.iload_n 1, 1) := by decide +kernel
theorem dX2_isPresent_5 : decode cX2_isPresent 5 = .ok (.invokevirtual 70, 3) := by decide +kernel
theorem dX2_isPresent_8 : decode cX2_isPresent 8 = .ok (.ireturn, 1) := by decide +kernel
theorem dX2_walked_0 : decode cX2_walked 0 = .ok (.aload_n 0, 1) := by decide +kernel
theorem dX2_walked_1 : decode cX2_walked 1 = .ok (.getfield 44, 3) := by decide +kernel
theorem dX2_walked_4 : decode cX2_walked 4 = .ok (.areturn, 1) := by decide +kernel
theorem dX2_codeOf_0 : decode cX2_codeOf 0 = .ok (.iload_n 1, 1) := by decide +kernel
theorem dX2_codeOf_1 : decode cX2_codeOf 1 = .ok (.aload_n 0, 1) := by decide +kernel
theorem dX2_codeOf_2 : decode cX2_codeOf 2 = .ok (.getfield 21, 3) := by decide +kernel
theorem dX2_codeOf_5 : decode cX2_codeOf 5 = .ok (.invokestatic 74, 3) := by decide +kernel
theorem dX2_codeOf_8 : decode cX2_codeOf 8 = .ok (.ireturn, 1) := by decide +kernel
theorem dX2_newEntry_0 : decode cX2_newEntry 0 = .ok (.aload_n 0, 1) := by decide +kernel
theorem dX2_newEntry_1 : decode cX2_newEntry 1 = .ok (.iload_n 1, 1) := by decide +kernel
theorem dX2_newEntry_2 : decode cX2_newEntry 2 = .ok (.invokevirtual 80, 3) := by decide +kernel
theorem dX2_newEntry_5 : decode cX2_newEntry 5 = .ok (.aload_n 0, 1) := by decide +kernel
theorem dX2_newEntry_6 : decode cX2_newEntry 6 = .ok (.getfield 9, 3) := by decide +kernel
theorem dX2_newEntry_9 : decode cX2_newEntry 9 = .ok (.aload_n 0, 1) := by decide +kernel
theorem dX2_newEntry_10 : decode cX2_newEntry 10 = .ok (.getfield 18, 3) := by decide +kernel
theorem dX2_newEntry_13 : decode cX2_newEntry 13 = .ok (.invokestatic 83, 3) := by decide +kernel
theorem dX2_newEntry_16 : decode cX2_newEntry 16 = .ok (.ireturn, 1) := by decide +kernel
theorem dX2_otherOf_0 : decode cX2_otherOf 0 = .ok (.iload_n 1, 1) := by decide +kernel
theorem dX2_otherOf_1 : decode cX2_otherOf 1 = .ok (.invokestatic 88, 3) := by decide +kernel
theorem dX2_otherOf_4 : decode cX2_otherOf 4 = .ok (.iload_n 1, 1) := by decide +kernel
theorem dX2_otherOf_5 : decode cX2_otherOf 5 = .ok (.invokestatic 91, 3) := by decide +kernel
theorem dX2_otherOf_8 : decode cX2_otherOf 8 = .ok (.aload_n 0, 1) := by decide +kernel
theorem dX2_otherOf_9 : decode cX2_otherOf 9 = .ok (.getfield 9, 3) := by decide +kernel
theorem dX2_otherOf_12 : decode cX2_otherOf 12 = .ok (.invokestatic 94, 3) := by decide +kernel
theorem dX2_otherOf_15 : decode cX2_otherOf 15 = .ok (.ireturn, 1) := by decide +kernel
theorem dX2_changeLimit_0 : decode cX2_changeLimit 0 = .ok (.aload_n 0, 1) := by decide +kernel
theorem dX2_changeLimit_1 : decode cX2_changeLimit 1 = .ok (.getfield 24, 3) := by decide +kernel
theorem dX2_changeLimit_4 : decode cX2_changeLimit 4 = .ok (.istore_n 2, 1) := by decide +kernel
theorem dX2_changeLimit_5 : decode cX2_changeLimit 5 = .ok (.aload_n 0, 1) := by decide +kernel
theorem dX2_changeLimit_6 : decode cX2_changeLimit 6 = .ok (.iload_n 1, 1) := by decide +kernel
theorem dX2_changeLimit_7 : decode cX2_changeLimit 7 = .ok (.putfield 24, 3) := by decide +kernel
theorem dX2_changeLimit_10 : decode cX2_changeLimit 10 = .ok (.iload_n 2, 1) := by decide +kernel
theorem dX2_changeLimit_11 : decode cX2_changeLimit 11 = .ok (.ireturn, 1) := by decide +kernel
theorem dX2_changeLength_0 : decode cX2_changeLength 0 = .ok (.aload_n 0, 1) := by decide +kernel
theorem dX2_changeLength_1 : decode cX2_changeLength 1 = .ok (.getfield 18, 3) := by decide +kernel
theorem dX2_changeLength_4 : decode cX2_changeLength 4 = .ok (.istore_n 2, 1) := by decide +kernel
theorem dX2_changeLength_5 : decode cX2_changeLength 5 = .ok (.aload_n 0, 1) := by decide +kernel
theorem dX2_changeLength_6 : decode cX2_changeLength 6 = .ok (.iload_n 1, 1) := by decide +kernel
theorem dX2_changeLength_7 : decode cX2_changeLength 7 = .ok (.putfield 18, 3) := by decide +kernel
theorem dX2_changeLength_10 : decode cX2_changeLength 10 = .ok (.iload_n 2, 1) := by decide +kernel
theorem dX2_changeLength_11 : decode cX2_changeLength 11 = .ok (.ireturn, 1) := by decide +kernel
theorem dX2_forgetAll_0 : decode cX2_forgetAll 0 = .ok (.aload_n 0, 1) := by decide +kernel
theorem dX2_forgetAll_1 : decode cX2_forgetAll 1 = .ok (.getfield 37, 3) := by decide +kernel
theorem dX2_forgetAll_4 : decode cX2_forgetAll 4 = .ok (.invokevirtual 62, 3) := by decide +kernel
theorem dX2_forgetAll_7 : decode cX2_forgetAll 7 = .ok (.istore_n 1, 1) := by decide +kernel
theorem dX2_forgetAll_8 : decode cX2_forgetAll 8 = .ok (.aload_n 0, 1) := by decide +kernel
theorem dX2_forgetAll_9 : decode cX2_forgetAll 9 = .ok (.invokevirtual 97, 3) := by decide +kernel
theorem dX2_forgetAll_12 : decode cX2_forgetAll 12 = .ok (.aload_n 0, 1) := by decide +kernel
theorem dX2_forgetAll_13 : decode cX2_forgetAll 13 = .ok (.getfield 37, 3) := by decide +kernel
theorem dX2_forgetAll_16 : decode cX2_forgetAll 16 = .ok (.invokevirtual 100, 3) := by decide +kernel
theorem dX2_forgetAll_19 : decode cX2_forgetAll 19 = .ok (.iload_n 1, 1) := by decide +kernel
theorem dX2_forgetAll_20 : decode cX2_forgetAll 20 = .ok (.ireturn, 1) := by decide +kernel
theorem dX2_number_0 : decode cX2_number 0 = .ok (.iload_n 1, 1) := by decide +kernel
theorem dX2_number_1 : decode cX2_number 1 = .ok (.tableswitch 104 0 8 #[51, 56, 61, 66, 71, 76, 81, 86, 91], 51) := by decide +kernel
theorem dX2_number_52 : decode cX2_number 52 = .ok (.aload_n 0, 1) := by decide +kernel
theorem dX2_number_53 : decode cX2_number 53 = .ok (.invokevirtual 103, 3) := by decide +kernel
theorem dX2_number_56 : decode cX2_number 56 = .ok (.ireturn, 1) := by decide +kernel
theorem dX2_number_57 : decode cX2_number 57 = .ok (.aload_n 0, 1) := by decide +kernel
theorem dX2_number_58 : decode cX2_number 58 = .ok (.getfield 15, 3) := by decide +kernel
theorem dX2_number_61 : decode cX2_number 61 = .ok (.ireturn, 1) := by decide +kernel
theorem dX2_number_62 : decode cX2_number 62 = .ok (.aload_n 0, 1) := by decide +kernel
theorem dX2_number_63 : decode cX2_number 63 = .ok (.getfield 18, 3) := by decide +kernel
theorem dX2_number_66 : decode cX2_number 66 = .ok (.ireturn, 1) := by decide +kernel
theorem dX2_number_67 : decode cX2_number 67 = .ok (.aload_n 0, 1) := by decide +kernel
theorem dX2_number_68 : decode cX2_number 68 = .ok (.getfield 21, 3) := by decide +kernel
theorem dX2_number_71 : decode cX2_number 71 = .ok (.ireturn, 1) := by decide +kernel
theorem dX2_number_72 : decode cX2_number 72 = .ok (.aload_n 0, 1) := by decide +kernel
theorem dX2_number_73 : decode cX2_number 73 = .ok (.getfield 24, 3) := by decide +kernel
theorem dX2_number_76 : decode cX2_number 76 = .ok (.ireturn, 1) := by decide +kernel
theorem dX2_number_77 : decode cX2_number 77 = .ok (.aload_n 0, 1) := by decide +kernel
theorem dX2_number_78 : decode cX2_number 78 = .ok (.invokevirtual 106, 3) := by decide +kernel
theorem dX2_number_81 : decode cX2_number 81 = .ok (.ireturn, 1) := by decide +kernel
theorem dX2_number_82 : decode cX2_number 82 = .ok (.aload_n 0, 1) := by decide +kernel
theorem dX2_number_83 : decode cX2_number 83 = .ok (.getfield 55, 3) := by decide +kernel
theorem dX2_number_86 : decode cX2_number 86 = .ok (.ireturn, 1) := by decide +kernel
theorem dX2_number_87 : decode cX2_number 87 = .ok (.aload_n 0, 1) := by decide +kernel
theorem dX2_number_88 : decode cX2_number 88 = .ok (.invokevirtual 109, 3) := by decide +kernel
theorem dX2_number_91 : decode cX2_number 91 = .ok (.ireturn, 1) := by decide +kernel
theorem dX2_number_92 : decode cX2_number 92 = .ok (.aload_n 0, 1) := by decide +kernel
theorem dX2_number_93 : decode cX2_number 93 = .ok (.invokevirtual 112, 3) := by decide +kernel
theorem dX2_number_96 : decode cX2_number 96 = .ok (.ifCond .eq 7, 3) := by decide +kernel
theorem dX2_number_99 : decode cX2_number 99 = .ok (.iconst 1, 1) := by decide +kernel
theorem dX2_number_100 : decode cX2_number 100 = .ok (.goto 4, 3) := by decide +kernel
theorem dX2_number_103 : decode cX2_number 103 = .ok (.iconst 0, 1) := by decide +kernel
theorem dX2_number_104 : decode cX2_number 104 = .ok (.ireturn, 1) := by decide +kernel
theorem dX2_number_105 : decode cX2_number 105 = .ok (.iconst (-1), 1) := by decide +kernel
theorem dX2_number_106 : decode cX2_number 106 = .ok (.ireturn, 1) := by decide +kernel
theorem dX2_partOfSlot_0 : decode cX2_partOfSlot 0 = .ok (.aload_n 0, 1) := by decide +kernel
theorem dX2_partOfSlot_1 : decode cX2_partOfSlot 1 = .ok (.iload_n 1, 1) := by decide +kernel
theorem dX2_partOfSlot_2 : decode cX2_partOfSlot 2 = .ok (.iload_n 2, 1) := by decide +kernel
theorem dX2_partOfSlot_3 : decode cX2_partOfSlot 3 = .ok (.invokestatic 116, 3) := by decide +kernel
theorem dX2_partOfSlot_6 : decode cX2_partOfSlot 6 = .ok (.invokevirtual 119, 3) := by decide +kernel
theorem dX2_partOfSlot_9 : decode cX2_partOfSlot 9 = .ok (.istore 4, 2) := by decide +kernel
theorem dX2_partOfSlot_11 : decode cX2_partOfSlot 11 = .ok (.iload 4, 2) := by decide +kernel
theorem dX2_partOfSlot_13 : decode cX2_partOfSlot 13 = .ok (.iconst (-1), 1) := by decide +kernel
theorem dX2_partOfSlot_14 : decode cX2_partOfSlot 14 = .ok (.if_icmp .ne 5, 3) := by decide +kernel
theorem dX2_partOfSlot_17 : decode cX2_partOfSlot 17 = .ok (.iconst (-1), 1) := by decide +kernel
theorem dX2_partOfSlot_18 : decode cX2_partOfSlot 18 = .ok (.ireturn, 1) := by decide +kernel
theorem dX2_partOfSlot_19 : decode cX2_partOfSlot 19 = .ok (.iload_n 3, 1) := by decide +kernel
theorem dX2_partOfSlot_20 : decode cX2_partOfSlot 20 = .ok (.iconst 3, 1) := by decide +kernel
theorem dX2_partOfSlot_21 : decode cX2_partOfSlot 21 = .ok (.if_icmp .ne 18, 3) := by decide +kernel
theorem dX2_partOfSlot_24 : decode cX2_partOfSlot 24 = .ok (.iload 4, 2) := by decide +kernel
theorem dX2_partOfSlot_26 : decode cX2_partOfSlot 26 = .ok (.invokestatic 88, 3) := by decide +kernel
theorem dX2_partOfSlot_29 : decode cX2_partOfSlot 29 = .ok (.iload_n 1, 1) := by decide +kernel
theorem dX2_partOfSlot_30 : decode cX2_partOfSlot 30 = .ok (.if_icmp .ne 7, 3) := by decide +kernel
theorem dX2_partOfSlot_33 : decode cX2_partOfSlot 33 = .ok (.iconst 0, 1) := by decide +kernel
theorem dX2_partOfSlot_34 : decode cX2_partOfSlot 34 = .ok (.goto 4, 3) := by decide +kernel
theorem dX2_partOfSlot_37 : decode cX2_partOfSlot 37 = .ok (.iconst 1, 1) := by decide +kernel
theorem dX2_partOfSlot_38 : decode cX2_partOfSlot 38 = .ok (.ireturn, 1) := by decide +kernel
theorem dX2_partOfSlot_39 : decode cX2_partOfSlot 39 = .ok (.iload 4, 2) := by decide +kernel
theorem dX2_partOfSlot_41 : decode cX2_partOfSlot 41 = .ok (.iload_n 3, 1) := by decide +kernel
theorem dX2_partOfSlot_42 : decode cX2_partOfSlot 42 = .ok (.invokestatic 122, 3) := by decide +kernel
theorem dX2_partOfSlot_45 : decode cX2_partOfSlot 45 = .ok (.ireturn, 1) := by decide +kernel
theorem dX2_partOfStash_0 : decode cX2_partOfStash 0 = .ok (.aload_n 0, 1) := by decide +kernel
theorem dX2_partOfStash_1 : decode cX2_partOfStash 1 = .ok (.iload_n 1, 1) := by decide +kernel
theorem dX2_partOfStash_2 : decode cX2_partOfStash 2 = .ok (.invokevirtual 125, 3) := by decide +kernel
theorem dX2_partOfStash_5 : decode cX2_partOfStash 5 = .ok (.istore_n 3, 1) := by decide +kernel
theorem dX2_partOfStash_6 : decode cX2_partOfStash 6 = .ok (.iload_n 2, 1) := by decide +kernel
theorem dX2_partOfStash_7 : decode cX2_partOfStash 7 = .ok (.iconst 3, 1) := by decide +kernel
theorem dX2_partOfStash_8 : decode cX2_partOfStash 8 = .ok (.if_icmp .ne 10, 3) := by decide +kernel
theorem dX2_partOfStash_11 : decode cX2_partOfStash 11 = .ok (.iload_n 3, 1) := by decide +kernel
theorem dX2_partOfStash_12 : decode cX2_partOfStash 12 = .ok (.invokestatic 88, 3) := by decide +kernel
theorem dX2_partOfStash_15 : decode cX2_partOfStash 15 = .ok (.goto 8, 3) := by decide +kernel
theorem dX2_partOfStash_18 : decode cX2_partOfStash 18 = .ok (.iload_n 3, 1) := by decide +kernel
theorem dX2_partOfStash_19 : decode cX2_partOfStash 19 = .ok (.iload_n 2, 1) := by decide +kernel
theorem dX2_partOfStash_20 : decode cX2_partOfStash 20 = .ok (.invokestatic 122, 3) := by decide +kernel
theorem dX2_partOfStash_23 : decode cX2_partOfStash 23 = .ok (.ireturn, 1) := by decide +kernel
theorem dX2_bucketsWith_0 : decode cX2_bucketsWith 0 = .ok (.iconst 0, 1) := by decide +kernel
theorem dX2_bucketsWith_1 : decode cX2_bucketsWith 1 = .ok (.istore_n 2, 1) := by decide +kernel
theorem dX2_bucketsWith_2 : decode cX2_bucketsWith 2 = .ok (.iconst 0, 1) := by decide +kernel
theorem dX2_bucketsWith_3 : decode cX2_bucketsWith 3 = .ok (.istore_n 3, 1) := by decide +kernel
theorem dX2_bucketsWith_4 : decode cX2_bucketsWith 4 = .ok (.iload_n 3, 1) := by decide +kernel
theorem dX2_bucketsWith_5 : decode cX2_bucketsWith 5 = .ok (.aload_n 0, 1) := by decide +kernel
theorem dX2_bucketsWith_6 : decode cX2_bucketsWith 6 = .ok (.invokevirtual 103, 3) := by decide +kernel
theorem dX2_bucketsWith_9 : decode cX2_bucketsWith 9 = .ok (.if_icmp .ge 21, 3) := by decide +kernel
theorem dX2_bucketsWith_12 : decode cX2_bucketsWith 12 = .ok (.aload_n 0, 1) := by decide +kernel
theorem dX2_bucketsWith_13 : decode cX2_bucketsWith 13 = .ok (.iload_n 3, 1) := by decide +kernel
theorem dX2_bucketsWith_14 : decode cX2_bucketsWith 14 = .ok (.invokevirtual 128, 3) := by decide +kernel
theorem dX2_bucketsWith_17 : decode cX2_bucketsWith 17 = .ok (.iload_n 1, 1) := by decide +kernel
theorem dX2_bucketsWith_18 : decode cX2_bucketsWith 18 = .ok (.if_icmp .ne 6, 3) := by decide +kernel
theorem dX2_bucketsWith_21 : decode cX2_bucketsWith 21 = .ok (.iinc 2 1, 3) := by decide +kernel
theorem dX2_bucketsWith_24 : decode cX2_bucketsWith 24 = .ok (.iinc 3 1, 3) := by decide +kernel
theorem dX2_bucketsWith_27 : decode cX2_bucketsWith 27 = .ok (.goto (-23), 3) := by decide +kernel
theorem dX2_bucketsWith_30 : decode cX2_bucketsWith 30 = .ok (.iload_n 2, 1) := by decide +kernel
theorem dX2_bucketsWith_31 : decode cX2_bucketsWith 31 = .ok (.ireturn, 1) := by decide +kernel
theorem dX2_emptySlot_0 : decode cX2_emptySlot 0 = .ok (.aload_n 0, 1) := by decide +kernel
theorem dX2_emptySlot_1 : decode cX2_emptySlot 1 = .ok (.iload_n 1, 1) := by decide +kernel
theorem dX2_emptySlot_2 : decode cX2_emptySlot 2 = .ok (.iload_n 2, 1) := by decide +kernel
theorem dX2_emptySlot_3 : decode cX2_emptySlot 3 = .ok (.invokestatic 116, 3) := by decide +kernel
theorem dX2_emptySlot_6 : decode cX2_emptySlot 6 = .ok (.iconst (-1), 1) := by decide +kernel
theorem dX2_emptySlot_7 : decode cX2_emptySlot 7 = .ok (.invokevirtual 131, 3) := by decide +kernel
theorem dX2_emptySlot_10 : decode cX2_emptySlot 10 = .ok (.return_, 1) := by decide +kernel
theorem dX2_finds_0 : decode cX2_finds 0 = .ok (.aload_n 0, 1) := by decide +kernel
theorem dX2_finds_1 : decode cX2_finds 1 = .ok (.iload_n 1, 1) := by decide +kernel
theorem dX2_finds_2 : decode cX2_finds 2 = .ok (.invokevirtual 135, 3) := by decide +kernel
theorem dX2_finds_5 : decode cX2_finds 5 = .ok (.iconst (-1), 1) := by decide +kernel
theorem dX2_finds_6 : decode cX2_finds 6 = .ok (.if_icmp .eq 7, 3) := by decide +kernel
theorem dX2_finds_9 : decode cX2_finds 9 = .ok (.iconst 1, 1) := by decide +kernel
theorem dX2_finds_10 : decode cX2_finds 10 = .ok (.goto 4, 3) := by decide +kernel
theorem dX2_finds_13 : decode cX2_finds 13 = .ok (.iconst 0, 1) := by decide +kernel
theorem dX2_finds_14 : decode cX2_finds 14 = .ok (.ireturn, 1) := by decide +kernel
theorem dX2_isFalse_0 : decode cX2_isFalse 0 = .ok (.aload_n 0, 1) := by decide +kernel
theorem dX2_isFalse_1 : decode cX2_isFalse 1 = .ok (.iload_n 1, 1) := by decide +kernel
theorem dX2_isFalse_2 : decode cX2_isFalse 2 = .ok (.invokevirtual 138, 3) := by decide +kernel
theorem dX2_isFalse_5 : decode cX2_isFalse 5 = .ok (.ifCond .eq 18, 3) := by decide +kernel
theorem dX2_isFalse_8 : decode cX2_isFalse 8 = .ok (.aload_n 0, 1) := by decide +kernel
theorem dX2_isFalse_9 : decode cX2_isFalse 9 = .ok (.getfield 37, 3) := by decide +kernel
theorem dX2_isFalse_12 : decode cX2_isFalse 12 = .ok (.iload_n 1, 1) := by decide +kernel
theorem dX2_isFalse_13 : decode cX2_isFalse 13 = .ok (.invokevirtual 70, 3) := by decide +kernel
theorem dX2_isFalse_16 : decode cX2_isFalse 16 = .ok (.ifCond .ne 7, 3) := by decide +kernel
theorem dX2_isFalse_19 : decode cX2_isFalse 19 = .ok (.iconst 1, 1) := by decide +kernel
theorem dX2_isFalse_20 : decode cX2_isFalse 20 = .ok (.goto 4, 3) := by decide +kernel
theorem dX2_isFalse_23 : decode cX2_isFalse 23 = .ok (.iconst 0, 1) := by decide +kernel
theorem dX2_isFalse_24 : decode cX2_isFalse 24 = .ok (.ireturn, 1) := by decide +kernel
theorem dX2_falseBetween_0 : decode cX2_falseBetween 0 = .ok (.iconst 0, 1) := by decide +kernel
theorem dX2_falseBetween_1 : decode cX2_falseBetween 1 = .ok (.istore_n 3, 1) := by decide +kernel
theorem dX2_falseBetween_2 : decode cX2_falseBetween 2 = .ok (.iload_n 1, 1) := by decide +kernel
theorem dX2_falseBetween_3 : decode cX2_falseBetween 3 = .ok (.istore 4, 2) := by decide +kernel
theorem dX2_falseBetween_5 : decode cX2_falseBetween 5 = .ok (.iload 4, 2) := by decide +kernel
theorem dX2_falseBetween_7 : decode cX2_falseBetween 7 = .ok (.iload_n 2, 1) := by decide +kernel
theorem dX2_falseBetween_8 : decode cX2_falseBetween 8 = .ok (.if_icmp .gt 29, 3) := by decide +kernel
theorem dX2_falseBetween_11 : decode cX2_falseBetween 11 = .ok (.iload 4, 2) := by decide +kernel
theorem dX2_falseBetween_13 : decode cX2_falseBetween 13 = .ok (.sipush 1000, 3) := by decide +kernel
theorem dX2_falseBetween_16 : decode cX2_falseBetween 16 = .ok (.if_icmp .ge 21, 3) := by decide +kernel
theorem dX2_falseBetween_19 : decode cX2_falseBetween 19 = .ok (.aload_n 0, 1) := by decide +kernel
theorem dX2_falseBetween_20 : decode cX2_falseBetween 20 = .ok (.iload 4, 2) := by decide +kernel
theorem dX2_falseBetween_22 : decode cX2_falseBetween 22 = .ok (.invokevirtual 141, 3) := by decide +kernel
theorem dX2_falseBetween_25 : decode cX2_falseBetween 25 = .ok (.ifCond .eq 6, 3) := by decide +kernel
theorem dX2_falseBetween_28 : decode cX2_falseBetween 28 = .ok (.iinc 3 1, 3) := by decide +kernel
theorem dX2_falseBetween_31 : decode cX2_falseBetween 31 = .ok (.iinc 4 1, 3) := by decide +kernel
theorem dX2_falseBetween_34 : decode cX2_falseBetween 34 = .ok (.goto (-29), 3) := by decide +kernel
theorem dX2_falseBetween_37 : decode cX2_falseBetween 37 = .ok (.iload_n 3, 1) := by decide +kernel
theorem dX2_falseBetween_38 : decode cX2_falseBetween 38 = .ok (.ireturn, 1) := by decide +kernel
theorem dX2_placeOf_0 : decode cX2_placeOf 0 = .ok (.aload_n 0, 1) := by decide +kernel
theorem dX2_placeOf_1 : decode cX2_placeOf 1 = .ok (.iload_n 1, 1) := by decide +kernel
theorem dX2_placeOf_2 : decode cX2_placeOf 2 = .ok (.invokevirtual 80, 3) := by decide +kernel
theorem dX2_placeOf_5 : decode cX2_placeOf 5 = .ok (.istore_n 2, 1) := by decide +kernel
theorem dX2_placeOf_6 : decode cX2_placeOf 6 = .ok (.iload_n 2, 1) := by decide +kernel
theorem dX2_placeOf_7 : decode cX2_placeOf 7 = .ok (.aload_n 0, 1) := by decide +kernel
theorem dX2_placeOf_8 : decode cX2_placeOf 8 = .ok (.getfield 9, 3) := by decide +kernel
theorem dX2_placeOf_11 : decode cX2_placeOf 11 = .ok (.invokestatic 144, 3) := by decide +kernel
theorem dX2_placeOf_14 : decode cX2_placeOf 14 = .ok (.istore_n 3, 1) := by decide +kernel
theorem dX2_placeOf_15 : decode cX2_placeOf 15 = .ok (.iload_n 3, 1) := by decide +kernel
theorem dX2_placeOf_16 : decode cX2_placeOf 16 = .ok (.iload_n 2, 1) := by decide +kernel
theorem dX2_placeOf_17 : decode cX2_placeOf 17 = .ok (.invokestatic 146, 3) := by decide +kernel
theorem dX2_placeOf_20 : decode cX2_placeOf 20 = .ok (.aload_n 0, 1) := by decide +kernel
theorem dX2_placeOf_21 : decode cX2_placeOf 21 = .ok (.getfield 9, 3) := by decide +kernel
theorem dX2_placeOf_24 : decode cX2_placeOf 24 = .ok (.invokestatic 94, 3) := by decide +kernel
theorem dX2_placeOf_27 : decode cX2_placeOf 27 = .ok (.istore 4, 2) := by decide +kernel
theorem dX2_placeOf_29 : decode cX2_placeOf 29 = .ok (.iconst (-1), 1) := by decide +kernel
theorem dX2_placeOf_30 : decode cX2_placeOf 30 = .ok (.istore 5, 2) := by decide +kernel
theorem dX2_placeOf_32 : decode cX2_placeOf 32 = .ok (.iconst (-1), 1) := by decide +kernel
theorem dX2_placeOf_33 : decode cX2_placeOf 33 = .ok (.istore 6, 2) := by decide +kernel
theorem dX2_placeOf_35 : decode cX2_placeOf 35 = .ok (.iconst 0, 1) := by decide +kernel
theorem dX2_placeOf_36 : decode cX2_placeOf 36 = .ok (.istore 7, 2) := by decide +kernel
theorem dX2_placeOf_38 : decode cX2_placeOf 38 = .ok (.iload 7, 2) := by decide +kernel
theorem dX2_placeOf_40 : decode cX2_placeOf 40 = .ok (.iconst 2, 1) := by decide +kernel
theorem dX2_placeOf_41 : decode cX2_placeOf 41 = .ok (.aload_n 0, 1) := by decide +kernel
theorem dX2_placeOf_42 : decode cX2_placeOf 42 = .ok (.getfield 15, 3) := by decide +kernel
theorem dX2_placeOf_45 : decode cX2_placeOf 45 = .ok (.imul, 1) := by decide +kernel
theorem dX2_placeOf_46 : decode cX2_placeOf 46 = .ok (.if_icmp .ge 72, 3) := by decide +kernel
theorem dX2_placeOf_49 : decode cX2_placeOf 49 = .ok (.iload 7, 2) := by decide +kernel
theorem dX2_placeOf_51 : decode cX2_placeOf 51 = .ok (.aload_n 0, 1) := by decide +kernel
theorem dX2_placeOf_52 : decode cX2_placeOf 52 = .ok (.getfield 15, 3) := by decide +kernel
theorem dX2_placeOf_55 : decode cX2_placeOf 55 = .ok (.if_icmp .ge 12, 3) := by decide +kernel
theorem dX2_placeOf_58 : decode cX2_placeOf 58 = .ok (.iload_n 3, 1) := by decide +kernel
theorem dX2_placeOf_59 : decode cX2_placeOf 59 = .ok (.iload 7, 2) := by decide +kernel
theorem dX2_placeOf_61 : decode cX2_placeOf 61 = .ok (.invokestatic 116, 3) := by decide +kernel
theorem dX2_placeOf_64 : decode cX2_placeOf 64 = .ok (.goto 15, 3) := by decide +kernel
theorem dX2_placeOf_67 : decode cX2_placeOf 67 = .ok (.iload 4, 2) := by decide +kernel
theorem dX2_placeOf_69 : decode cX2_placeOf 69 = .ok (.iload 7, 2) := by decide +kernel
theorem dX2_placeOf_71 : decode cX2_placeOf 71 = .ok (.aload_n 0, 1) := by decide +kernel
theorem dX2_placeOf_72 : decode cX2_placeOf 72 = .ok (.getfield 15, 3) := by decide +kernel
theorem dX2_placeOf_75 : decode cX2_placeOf 75 = .ok (.isub, 1) := by decide +kernel
theorem dX2_placeOf_76 : decode cX2_placeOf 76 = .ok (.invokestatic 116, 3) := by decide +kernel
theorem dX2_placeOf_79 : decode cX2_placeOf 79 = .ok (.istore 8, 2) := by decide +kernel
theorem dX2_placeOf_81 : decode cX2_placeOf 81 = .ok (.aload_n 0, 1) := by decide +kernel
theorem dX2_placeOf_82 : decode cX2_placeOf 82 = .ok (.iload 8, 2) := by decide +kernel
theorem dX2_placeOf_84 : decode cX2_placeOf 84 = .ok (.invokevirtual 119, 3) := by decide +kernel
theorem dX2_placeOf_87 : decode cX2_placeOf 87 = .ok (.iload_n 2, 1) := by decide +kernel
theorem dX2_placeOf_88 : decode cX2_placeOf 88 = .ok (.aload_n 0, 1) := by decide +kernel
theorem dX2_placeOf_89 : decode cX2_placeOf 89 = .ok (.getfield 9, 3) := by decide +kernel
theorem dX2_placeOf_92 : decode cX2_placeOf 92 = .ok (.invokestatic 147, 3) := by decide +kernel
theorem dX2_placeOf_95 : decode cX2_placeOf 95 = .ok (.istore 9, 2) := by decide +kernel
theorem dX2_placeOf_97 : decode cX2_placeOf 97 = .ok (.iload 9, 2) := by decide +kernel
theorem dX2_placeOf_99 : decode cX2_placeOf 99 = .ok (.iload 6, 2) := by decide +kernel
theorem dX2_placeOf_101 : decode cX2_placeOf 101 = .ok (.if_icmp .le 11, 3) := by decide +kernel
theorem dX2_placeOf_104 : decode cX2_placeOf 104 = .ok (.iload 9, 2) := by decide +kernel
theorem dX2_placeOf_106 : decode cX2_placeOf 106 = .ok (.istore 6, 2) := by decide +kernel
theorem dX2_placeOf_108 : decode cX2_placeOf 108 = .ok (.iload 8, 2) := by decide +kernel
theorem dX2_placeOf_110 : decode cX2_placeOf 110 = .ok (.istore 5, 2) := by decide +kernel
theorem dX2_placeOf_112 : decode cX2_placeOf 112 = .ok (.iinc 7 1, 3) := by decide +kernel
theorem dX2_placeOf_115 : decode cX2_placeOf 115 = .ok (.goto (-77), 3) := by decide +kernel
theorem dX2_placeOf_118 : decode cX2_placeOf 118 = .ok (.iconst 0, 1) := by decide +kernel
theorem dX2_placeOf_119 : decode cX2_placeOf 119 = .ok (.istore 7, 2) := by decide +kernel
theorem dX2_placeOf_121 : decode cX2_placeOf 121 = .ok (.iload 7, 2) := by decide +kernel
theorem dX2_placeOf_123 : decode cX2_placeOf 123 = .ok (.aload_n 0, 1) := by decide +kernel
theorem dX2_placeOf_124 : decode cX2_placeOf 124 = .ok (.getfield 55, 3) := by decide +kernel
theorem dX2_placeOf_127 : decode cX2_placeOf 127 = .ok (.if_icmp .ge 44, 3) := by decide +kernel
theorem dX2_placeOf_130 : decode cX2_placeOf 130 = .ok (.aload_n 0, 1) := by decide +kernel
theorem dX2_placeOf_131 : decode cX2_placeOf 131 = .ok (.iload 7, 2) := by decide +kernel
theorem dX2_placeOf_133 : decode cX2_placeOf 133 = .ok (.invokevirtual 125, 3) := by decide +kernel
theorem dX2_placeOf_136 : decode cX2_placeOf 136 = .ok (.iload_n 2, 1) := by decide +kernel
theorem dX2_placeOf_137 : decode cX2_placeOf 137 = .ok (.aload_n 0, 1) := by decide +kernel
theorem dX2_placeOf_138 : decode cX2_placeOf 138 = .ok (.getfield 9, 3) := by decide +kernel
theorem dX2_placeOf_141 : decode cX2_placeOf 141 = .ok (.invokestatic 147, 3) := by decide +kernel
theorem dX2_placeOf_144 : decode cX2_placeOf 144 = .ok (.istore 8, 2) := by decide +kernel
theorem dX2_placeOf_146 : decode cX2_placeOf 146 = .ok (.iload 8, 2) := by decide +kernel
theorem dX2_placeOf_148 : decode cX2_placeOf 148 = .ok (.iload 6, 2) := by decide +kernel
theorem dX2_placeOf_150 : decode cX2_placeOf 150 = .ok (.if_icmp .le 15, 3) := by decide +kernel
theorem dX2_placeOf_153 : decode cX2_placeOf 153 = .ok (.iload 8, 2) := by decide +kernel
theorem dX2_placeOf_155 : decode cX2_placeOf 155 = .ok (.istore 6, 2) := by decide +kernel
theorem dX2_placeOf_157 : decode cX2_placeOf 157 = .ok (.sipush 1000, 3) := by decide +kernel
theorem dX2_placeOf_160 : decode cX2_placeOf 160 = .ok (.iload 7, 2) := by decide +kernel
theorem dX2_placeOf_162 : decode cX2_placeOf 162 = .ok (.iadd, 1) := by decide +kernel
theorem dX2_placeOf_163 : decode cX2_placeOf 163 = .ok (.istore 5, 2) := by decide +kernel
theorem dX2_placeOf_165 : decode cX2_placeOf 165 = .ok (.iinc 7 1, 3) := by decide +kernel
theorem dX2_placeOf_168 : decode cX2_placeOf 168 = .ok (.goto (-47), 3) := by decide +kernel
theorem dX2_placeOf_171 : decode cX2_placeOf 171 = .ok (.iload 5, 2) := by decide +kernel
theorem dX2_placeOf_173 : decode cX2_placeOf 173 = .ok (.ireturn, 1) := by decide +kernel
theorem dX2_twinPairs_0 : decode cX2_twinPairs 0 = .ok (.iconst 0, 1) := by decide +kernel
theorem dX2_twinPairs_1 : decode cX2_twinPairs 1 = .ok (.istore_n 1, 1) := by decide +kernel
theorem dX2_twinPairs_2 : decode cX2_twinPairs 2 = .ok (.iconst 0, 1) := by decide +kernel
theorem dX2_twinPairs_3 : decode cX2_twinPairs 3 = .ok (.istore_n 2, 1) := by decide +kernel
theorem dX2_twinPairs_4 : decode cX2_twinPairs 4 = .ok (.iload_n 2, 1) := by decide +kernel
theorem dX2_twinPairs_5 : decode cX2_twinPairs 5 = .ok (.aload_n 0, 1) := by decide +kernel
theorem dX2_twinPairs_6 : decode cX2_twinPairs 6 = .ok (.getfield 37, 3) := by decide +kernel
theorem dX2_twinPairs_9 : decode cX2_twinPairs 9 = .ok (.invokevirtual 62, 3) := by decide +kernel
theorem dX2_twinPairs_12 : decode cX2_twinPairs 12 = .ok (.if_icmp .ge 57, 3) := by decide +kernel
theorem dX2_twinPairs_15 : decode cX2_twinPairs 15 = .ok (.aload_n 0, 1) := by decide +kernel
theorem dX2_twinPairs_16 : decode cX2_twinPairs 16 = .ok (.aload_n 0, 1) := by decide +kernel
theorem dX2_twinPairs_17 : decode cX2_twinPairs 17 = .ok (.getfield 37, 3) := by decide +kernel
theorem dX2_twinPairs_20 : decode cX2_twinPairs 20 = .ok (.iload_n 2, 1) := by decide +kernel
theorem dX2_twinPairs_21 : decode cX2_twinPairs 21 = .ok (.invokevirtual 66, 3) := by decide +kernel
theorem dX2_twinPairs_24 : decode cX2_twinPairs 24 = .ok (.invokevirtual 150, 3) := by decide +kernel
theorem dX2_twinPairs_27 : decode cX2_twinPairs 27 = .ok (.istore_n 3, 1) := by decide +kernel
theorem dX2_twinPairs_28 : decode cX2_twinPairs 28 = .ok (.iconst 0, 1) := by decide +kernel
theorem dX2_twinPairs_29 : decode cX2_twinPairs 29 = .ok (.istore 4, 2) := by decide +kernel
theorem dX2_twinPairs_31 : decode cX2_twinPairs 31 = .ok (.iload 4, 2) := by decide +kernel
theorem dX2_twinPairs_33 : decode cX2_twinPairs 33 = .ok (.iload_n 2, 1) := by decide +kernel
theorem dX2_twinPairs_34 : decode cX2_twinPairs 34 = .ok (.if_icmp .ge 29, 3) := by decide +kernel
theorem dX2_twinPairs_37 : decode cX2_twinPairs 37 = .ok (.aload_n 0, 1) := by decide +kernel
theorem dX2_twinPairs_38 : decode cX2_twinPairs 38 = .ok (.aload_n 0, 1) := by decide +kernel
theorem dX2_twinPairs_39 : decode cX2_twinPairs 39 = .ok (.getfield 37, 3) := by decide +kernel
theorem dX2_twinPairs_42 : decode cX2_twinPairs 42 = .ok (.iload 4, 2) := by decide +kernel
theorem dX2_twinPairs_44 : decode cX2_twinPairs 44 = .ok (.invokevirtual 66, 3) := by decide +kernel
theorem dX2_twinPairs_47 : decode cX2_twinPairs 47 = .ok (.invokevirtual 150, 3) := by decide +kernel
theorem dX2_twinPairs_50 : decode cX2_twinPairs 50 = .ok (.iload_n 3, 1) := by decide +kernel
theorem dX2_twinPairs_51 : decode cX2_twinPairs 51 = .ok (.if_icmp .ne 6, 3) := by decide +kernel
theorem dX2_twinPairs_54 : decode cX2_twinPairs 54 = .ok (.iinc 1 1, 3) := by decide +kernel
theorem dX2_twinPairs_57 : decode cX2_twinPairs 57 = .ok (.iinc 4 1, 3) := by decide +kernel
theorem dX2_twinPairs_60 : decode cX2_twinPairs 60 = .ok (.goto (-29), 3) := by decide +kernel
theorem dX2_twinPairs_63 : decode cX2_twinPairs 63 = .ok (.iinc 2 1, 3) := by decide +kernel
theorem dX2_twinPairs_66 : decode cX2_twinPairs 66 = .ok (.goto (-62), 3) := by decide +kernel
theorem dX2_twinPairs_69 : decode cX2_twinPairs 69 = .ok (.iload_n 1, 1) := by decide +kernel
theorem dX2_twinPairs_70 : decode cX2_twinPairs 70 = .ok (.ireturn, 1) := by decide +kernel
theorem dX2_addKey_0 : decode cX2_addKey 0 = .ok (.aload_n 0, 1) := by decide +kernel
theorem dX2_addKey_1 : decode cX2_addKey 1 = .ok (.getfield 37, 3) := by decide +kernel
theorem dX2_addKey_4 : decode cX2_addKey 4 = .ok (.iload_n 1, 1) := by decide +kernel
theorem dX2_addKey_5 : decode cX2_addKey 5 = .ok (.invokevirtual 70, 3) := by decide +kernel
theorem dX2_addKey_8 : decode cX2_addKey 8 = .ok (.ifCond .ne 13, 3) := by decide +kernel
theorem dX2_addKey_11 : decode cX2_addKey 11 = .ok (.aload_n 0, 1) := by decide +kernel
theorem dX2_addKey_12 : decode cX2_addKey 12 = .ok (.getfield 37, 3) := by decide +kernel
theorem dX2_addKey_15 : decode cX2_addKey 15 = .ok (.invokevirtual 153, 3) := by decide +kernel
theorem dX2_addKey_18 : decode cX2_addKey 18 = .ok (.ifCond .eq 5, 3) := by decide +kernel
theorem dX2_addKey_21 : decode cX2_addKey 21 = .ok (.iconst (-1), 1) := by decide +kernel
theorem dX2_addKey_22 : decode cX2_addKey 22 = .ok (.ireturn, 1) := by decide +kernel
theorem dX2_addKey_23 : decode cX2_addKey 23 = .ok (.aload_n 0, 1) := by decide +kernel
theorem dX2_addKey_24 : decode cX2_addKey 24 = .ok (.iload_n 1, 1) := by decide +kernel
theorem dX2_addKey_25 : decode cX2_addKey 25 = .ok (.invokevirtual 156, 3) := by decide +kernel
theorem dX2_addKey_28 : decode cX2_addKey 28 = .ok (.istore_n 2, 1) := by decide +kernel
theorem dX2_addKey_29 : decode cX2_addKey 29 = .ok (.iload_n 2, 1) := by decide +kernel
theorem dX2_addKey_30 : decode cX2_addKey 30 = .ok (.iconst (-1), 1) := by decide +kernel
theorem dX2_addKey_31 : decode cX2_addKey 31 = .ok (.if_icmp .eq 11, 3) := by decide +kernel
theorem dX2_addKey_34 : decode cX2_addKey 34 = .ok (.aload_n 0, 1) := by decide +kernel
theorem dX2_addKey_35 : decode cX2_addKey 35 = .ok (.getfield 37, 3) := by decide +kernel
theorem dX2_addKey_38 : decode cX2_addKey 38 = .ok (.iload_n 1, 1) := by decide +kernel
theorem dX2_addKey_39 : decode cX2_addKey 39 = .ok (.invokevirtual 159, 3) := by decide +kernel
theorem dX2_addKey_42 : decode cX2_addKey 42 = .ok (.iload_n 2, 1) := by decide +kernel
theorem dX2_addKey_43 : decode cX2_addKey 43 = .ok (.ireturn, 1) := by decide +kernel
theorem dX2_addKeyShortest_0 : decode cX2_addKeyShortest 0 = .ok (.aload_n 0, 1) := by decide +kernel
theorem dX2_addKeyShortest_1 : decode cX2_addKeyShortest 1 = .ok (.getfield 37, 3) := by decide +kernel
theorem dX2_addKeyShortest_4 : decode cX2_addKeyShortest 4 = .ok (.iload_n 1, 1) := by decide +kernel
theorem dX2_addKeyShortest_5 : decode cX2_addKeyShortest 5 = .ok (.invokevirtual 70, 3) := by decide +kernel
theorem dX2_addKeyShortest_8 : decode cX2_addKeyShortest 8 = .ok (.ifCond .ne 13, 3) := by decide +kernel
theorem dX2_addKeyShortest_11 : decode cX2_addKeyShortest 11 = .ok (.aload_n 0, 1) := by decide +kernel
theorem dX2_addKeyShortest_12 : decode cX2_addKeyShortest 12 = .ok (.getfield 37, 3) := by decide +kernel
theorem dX2_addKeyShortest_15 : decode cX2_addKeyShortest 15 = .ok (.invokevirtual 153, 3) := by decide +kernel
theorem dX2_addKeyShortest_18 : decode cX2_addKeyShortest 18 = .ok (.ifCond .eq 5, 3) := by decide +kernel
theorem dX2_addKeyShortest_21 : decode cX2_addKeyShortest 21 = .ok (.iconst (-1), 1) := by decide +kernel
theorem dX2_addKeyShortest_22 : decode cX2_addKeyShortest 22 = .ok (.ireturn, 1) := by decide +kernel
theorem dX2_addKeyShortest_23 : decode cX2_addKeyShortest 23 = .ok (.aload_n 0, 1) := by decide +kernel
theorem dX2_addKeyShortest_24 : decode cX2_addKeyShortest 24 = .ok (.iload_n 1, 1) := by decide +kernel
theorem dX2_addKeyShortest_25 : decode cX2_addKeyShortest 25 = .ok (.invokevirtual 163, 3) := by decide +kernel
theorem dX2_addKeyShortest_28 : decode cX2_addKeyShortest 28 = .ok (.istore_n 2, 1) := by decide +kernel
theorem dX2_addKeyShortest_29 : decode cX2_addKeyShortest 29 = .ok (.iload_n 2, 1) := by decide +kernel
theorem dX2_addKeyShortest_30 : decode cX2_addKeyShortest 30 = .ok (.iconst (-1), 1) := by decide +kernel
theorem dX2_addKeyShortest_31 : decode cX2_addKeyShortest 31 = .ok (.if_icmp .eq 11, 3) := by decide +kernel
theorem dX2_addKeyShortest_34 : decode cX2_addKeyShortest 34 = .ok (.aload_n 0, 1) := by decide +kernel
theorem dX2_addKeyShortest_35 : decode cX2_addKeyShortest 35 = .ok (.getfield 37, 3) := by decide +kernel
theorem dX2_addKeyShortest_38 : decode cX2_addKeyShortest 38 = .ok (.iload_n 1, 1) := by decide +kernel
theorem dX2_addKeyShortest_39 : decode cX2_addKeyShortest 39 = .ok (.invokevirtual 159, 3) := by decide +kernel
theorem dX2_addKeyShortest_42 : decode cX2_addKeyShortest 42 = .ok (.iload_n 2, 1) := by decide +kernel
theorem dX2_addKeyShortest_43 : decode cX2_addKeyShortest 43 = .ok (.ireturn, 1) := by decide +kernel
theorem dX2_deleteKey_0 : decode cX2_deleteKey 0 = .ok (.aload_n 0, 1) := by decide +kernel
theorem dX2_deleteKey_1 : decode cX2_deleteKey 1 = .ok (.getfield 37, 3) := by decide +kernel
theorem dX2_deleteKey_4 : decode cX2_deleteKey 4 = .ok (.iload_n 1, 1) := by decide +kernel
theorem dX2_deleteKey_5 : decode cX2_deleteKey 5 = .ok (.invokevirtual 70, 3) := by decide +kernel
theorem dX2_deleteKey_8 : decode cX2_deleteKey 8 = .ok (.ifCond .ne 5, 3) := by decide +kernel
theorem dX2_deleteKey_11 : decode cX2_deleteKey 11 = .ok (.iconst (-1), 1) := by decide +kernel
theorem dX2_deleteKey_12 : decode cX2_deleteKey 12 = .ok (.ireturn, 1) := by decide +kernel
theorem dX2_deleteKey_13 : decode cX2_deleteKey 13 = .ok (.aload_n 0, 1) := by decide +kernel
theorem dX2_deleteKey_14 : decode cX2_deleteKey 14 = .ok (.aload_n 0, 1) := by decide +kernel
theorem dX2_deleteKey_15 : decode cX2_deleteKey 15 = .ok (.iload_n 1, 1) := by decide +kernel
theorem dX2_deleteKey_16 : decode cX2_deleteKey 16 = .ok (.invokevirtual 135, 3) := by decide +kernel
theorem dX2_deleteKey_19 : decode cX2_deleteKey 19 = .ok (.invokevirtual 166, 3) := by decide +kernel
theorem dX2_deleteKey_22 : decode cX2_deleteKey 22 = .ok (.aload_n 0, 1) := by decide +kernel
theorem dX2_deleteKey_23 : decode cX2_deleteKey 23 = .ok (.getfield 37, 3) := by decide +kernel
theorem dX2_deleteKey_26 : decode cX2_deleteKey 26 = .ok (.iload_n 1, 1) := by decide +kernel
theorem dX2_deleteKey_27 : decode cX2_deleteKey 27 = .ok (.invokevirtual 169, 3) := by decide +kernel
theorem dX2_deleteKey_30 : decode cX2_deleteKey 30 = .ok (.aload_n 0, 1) := by decide +kernel
theorem dX2_deleteKey_31 : decode cX2_deleteKey 31 = .ok (.invokevirtual 172, 3) := by decide +kernel
theorem dX2_deleteKey_34 : decode cX2_deleteKey 34 = .ok (.ireturn, 1) := by decide +kernel
theorem dX2_doubleBuckets_0 : decode cX2_doubleBuckets 0 = .ok (.aload_n 0, 1) := by decide +kernel
theorem dX2_doubleBuckets_1 : decode cX2_doubleBuckets 1 = .ok (.invokevirtual 112, 3) := by decide +kernel
theorem dX2_doubleBuckets_4 : decode cX2_doubleBuckets 4 = .ok (.ifCond .ne 5, 3) := by decide +kernel
theorem dX2_doubleBuckets_7 : decode cX2_doubleBuckets 7 = .ok (.iconst (-1), 1) := by decide +kernel
theorem dX2_doubleBuckets_8 : decode cX2_doubleBuckets 8 = .ok (.ireturn, 1) := by decide +kernel
theorem dX2_doubleBuckets_9 : decode cX2_doubleBuckets 9 = .ok (.aload_n 0, 1) := by decide +kernel
theorem dX2_doubleBuckets_10 : decode cX2_doubleBuckets 10 = .ok (.getfield 9, 3) := by decide +kernel
theorem dX2_doubleBuckets_13 : decode cX2_doubleBuckets 13 = .ok (.istore_n 1, 1) := by decide +kernel
theorem dX2_doubleBuckets_14 : decode cX2_doubleBuckets 14 = .ok (.aload_n 0, 1) := by decide +kernel
theorem dX2_doubleBuckets_15 : decode cX2_doubleBuckets 15 = .ok (.invokevirtual 103, 3) := by decide +kernel
theorem dX2_doubleBuckets_18 : decode cX2_doubleBuckets 18 = .ok (.istore_n 2, 1) := by decide +kernel
theorem dX2_doubleBuckets_19 : decode cX2_doubleBuckets 19 = .ok (.aload_n 0, 1) := by decide +kernel
theorem dX2_doubleBuckets_20 : decode cX2_doubleBuckets 20 = .ok (.iload_n 1, 1) := by decide +kernel
theorem dX2_doubleBuckets_21 : decode cX2_doubleBuckets 21 = .ok (.iconst 1, 1) := by decide +kernel
theorem dX2_doubleBuckets_22 : decode cX2_doubleBuckets 22 = .ok (.iadd, 1) := by decide +kernel
theorem dX2_doubleBuckets_23 : decode cX2_doubleBuckets 23 = .ok (.putfield 9, 3) := by decide +kernel
theorem dX2_doubleBuckets_26 : decode cX2_doubleBuckets 26 = .ok (.iconst 0, 1) := by decide +kernel
theorem dX2_doubleBuckets_27 : decode cX2_doubleBuckets 27 = .ok (.istore_n 3, 1) := by decide +kernel
theorem dX2_doubleBuckets_28 : decode cX2_doubleBuckets 28 = .ok (.iload_n 3, 1) := by decide +kernel
theorem dX2_doubleBuckets_29 : decode cX2_doubleBuckets 29 = .ok (.iload_n 2, 1) := by decide +kernel
theorem dX2_doubleBuckets_30 : decode cX2_doubleBuckets 30 = .ok (.if_icmp .ge 35, 3) := by decide +kernel
theorem dX2_doubleBuckets_33 : decode cX2_doubleBuckets 33 = .ok (.iconst 0, 1) := by decide +kernel
theorem dX2_doubleBuckets_34 : decode cX2_doubleBuckets 34 = .ok (.istore 4, 2) := by decide +kernel
theorem dX2_doubleBuckets_36 : decode cX2_doubleBuckets 36 = .ok (.iload 4, 2) := by decide +kernel
theorem dX2_doubleBuckets_38 : decode cX2_doubleBuckets 38 = .ok (.aload_n 0, 1) := by decide +kernel
theorem dX2_doubleBuckets_39 : decode cX2_doubleBuckets 39 = .ok (.getfield 15, 3) := by decide +kernel
theorem dX2_doubleBuckets_42 : decode cX2_doubleBuckets 42 = .ok (.if_icmp .ge 17, 3) := by decide +kernel
theorem dX2_doubleBuckets_45 : decode cX2_doubleBuckets 45 = .ok (.aload_n 0, 1) := by decide +kernel
theorem dX2_doubleBuckets_46 : decode cX2_doubleBuckets 46 = .ok (.iload_n 3, 1) := by decide +kernel
theorem dX2_doubleBuckets_47 : decode cX2_doubleBuckets 47 = .ok (.iload 4, 2) := by decide +kernel
theorem dX2_doubleBuckets_49 : decode cX2_doubleBuckets 49 = .ok (.iload_n 1, 1) := by decide +kernel
theorem dX2_doubleBuckets_50 : decode cX2_doubleBuckets 50 = .ok (.invokevirtual 175, 3) := by decide +kernel
theorem dX2_doubleBuckets_53 : decode cX2_doubleBuckets 53 = .ok (.iinc 4 1, 3) := by decide +kernel
theorem dX2_doubleBuckets_56 : decode cX2_doubleBuckets 56 = .ok (.goto (-20), 3) := by decide +kernel
theorem dX2_doubleBuckets_59 : decode cX2_doubleBuckets 59 = .ok (.iinc 3 1, 3) := by decide +kernel
theorem dX2_doubleBuckets_62 : decode cX2_doubleBuckets 62 = .ok (.goto (-34), 3) := by decide +kernel
theorem dX2_doubleBuckets_65 : decode cX2_doubleBuckets 65 = .ok (.iconst 0, 1) := by decide +kernel
theorem dX2_doubleBuckets_66 : decode cX2_doubleBuckets 66 = .ok (.istore_n 3, 1) := by decide +kernel
theorem dX2_doubleBuckets_67 : decode cX2_doubleBuckets 67 = .ok (.iload_n 3, 1) := by decide +kernel
theorem dX2_doubleBuckets_68 : decode cX2_doubleBuckets 68 = .ok (.aload_n 0, 1) := by decide +kernel
theorem dX2_doubleBuckets_69 : decode cX2_doubleBuckets 69 = .ok (.getfield 55, 3) := by decide +kernel
theorem dX2_doubleBuckets_72 : decode cX2_doubleBuckets 72 = .ok (.if_icmp .ge 34, 3) := by decide +kernel
theorem dX2_doubleBuckets_75 : decode cX2_doubleBuckets 75 = .ok (.iload_n 3, 1) := by decide +kernel
theorem dX2_doubleBuckets_76 : decode cX2_doubleBuckets 76 = .ok (.aload_n 0, 1) := by decide +kernel
theorem dX2_doubleBuckets_77 : decode cX2_doubleBuckets 77 = .ok (.getfield 31, 3) := by decide +kernel
theorem dX2_doubleBuckets_80 : decode cX2_doubleBuckets 80 = .ok (.arraylength, 1) := by decide +kernel
theorem dX2_doubleBuckets_81 : decode cX2_doubleBuckets 81 = .ok (.if_icmp .ge 25, 3) := by decide +kernel
theorem dX2_doubleBuckets_84 : decode cX2_doubleBuckets 84 = .ok (.aload_n 0, 1) := by decide +kernel
theorem dX2_doubleBuckets_85 : decode cX2_doubleBuckets 85 = .ok (.getfield 31, 3) := by decide +kernel
theorem dX2_doubleBuckets_88 : decode cX2_doubleBuckets 88 = .ok (.iload_n 3, 1) := by decide +kernel
theorem dX2_doubleBuckets_89 : decode cX2_doubleBuckets 89 = .ok (.aload_n 0, 1) := by decide +kernel
theorem dX2_doubleBuckets_90 : decode cX2_doubleBuckets 90 = .ok (.getfield 31, 3) := by decide +kernel
theorem dX2_doubleBuckets_93 : decode cX2_doubleBuckets 93 = .ok (.iload_n 3, 1) := by decide +kernel
theorem dX2_doubleBuckets_94 : decode cX2_doubleBuckets 94 = .ok (.iaload, 1) := by decide +kernel
theorem dX2_doubleBuckets_95 : decode cX2_doubleBuckets 95 = .ok (.iload_n 1, 1) := by decide +kernel
theorem dX2_doubleBuckets_96 : decode cX2_doubleBuckets 96 = .ok (.invokestatic 179, 3) := by decide +kernel
theorem dX2_doubleBuckets_99 : decode cX2_doubleBuckets 99 = .ok (.iastore, 1) := by decide +kernel
theorem dX2_doubleBuckets_100 : decode cX2_doubleBuckets 100 = .ok (.iinc 3 1, 3) := by decide +kernel
theorem dX2_doubleBuckets_103 : decode cX2_doubleBuckets 103 = .ok (.goto (-36), 3) := by decide +kernel
theorem dX2_doubleBuckets_106 : decode cX2_doubleBuckets 106 = .ok (.aload_n 0, 1) := by decide +kernel
theorem dX2_doubleBuckets_107 : decode cX2_doubleBuckets 107 = .ok (.invokevirtual 172, 3) := by decide +kernel
theorem dX2_doubleBuckets_110 : decode cX2_doubleBuckets 110 = .ok (.pop, 1) := by decide +kernel
theorem dX2_doubleBuckets_111 : decode cX2_doubleBuckets 111 = .ok (.aload_n 0, 1) := by decide +kernel
theorem dX2_doubleBuckets_112 : decode cX2_doubleBuckets 112 = .ok (.invokevirtual 103, 3) := by decide +kernel
theorem dX2_doubleBuckets_115 : decode cX2_doubleBuckets 115 = .ok (.ireturn, 1) := by decide +kernel
theorem dX2_perform_0 : decode cX2_perform 0 = .ok (.iload_n 1, 1) := by decide +kernel
theorem dX2_perform_1 : decode cX2_perform 1 = .ok (.bipush 43, 2) := by decide +kernel
theorem dX2_perform_3 : decode cX2_perform 3 = .ok (.if_icmp .ne 9, 3) := by decide +kernel
theorem dX2_perform_6 : decode cX2_perform 6 = .ok (.aload_n 0, 1) := by decide +kernel
theorem dX2_perform_7 : decode cX2_perform 7 = .ok (.iload_n 2, 1) := by decide +kernel
theorem dX2_perform_8 : decode cX2_perform 8 = .ok (.invokevirtual 182, 3) := by decide +kernel
theorem dX2_perform_11 : decode cX2_perform 11 = .ok (.ireturn, 1) := by decide +kernel
theorem dX2_perform_12 : decode cX2_perform 12 = .ok (.iload_n 1, 1) := by decide +kernel
theorem dX2_perform_13 : decode cX2_perform 13 = .ok (.bipush 45, 2) := by decide +kernel
theorem dX2_perform_15 : decode cX2_perform 15 = .ok (.if_icmp .ne 11, 3) := by decide +kernel
theorem dX2_perform_18 : decode cX2_perform 18 = .ok (.aload_n 0, 1) := by decide +kernel
theorem dX2_perform_19 : decode cX2_perform 19 = .ok (.iload_n 2, 1) := by decide +kernel
theorem dX2_perform_20 : decode cX2_perform 20 = .ok (.invokevirtual 185, 3) := by decide +kernel
theorem dX2_perform_23 : decode cX2_perform 23 = .ok (.goto 7, 3) := by decide +kernel
theorem dX2_perform_26 : decode cX2_perform 26 = .ok (.aload_n 0, 1) := by decide +kernel
theorem dX2_perform_27 : decode cX2_perform 27 = .ok (.invokevirtual 188, 3) := by decide +kernel
theorem dX2_perform_30 : decode cX2_perform 30 = .ok (.ireturn, 1) := by decide +kernel
theorem dX2_refill_0 : decode cX2_refill 0 = .ok (.aload_n 0, 1) := by decide +kernel
theorem dX2_refill_1 : decode cX2_refill 1 = .ok (.iload_n 1, 1) := by decide +kernel
theorem dX2_refill_2 : decode cX2_refill 2 = .ok (.putfield 9, 3) := by decide +kernel
theorem dX2_refill_5 : decode cX2_refill 5 = .ok (.aload_n 0, 1) := by decide +kernel
theorem dX2_refill_6 : decode cX2_refill 6 = .ok (.iload_n 2, 1) := by decide +kernel
theorem dX2_refill_7 : decode cX2_refill 7 = .ok (.putfield 15, 3) := by decide +kernel
theorem dX2_refill_10 : decode cX2_refill 10 = .ok (.aload_n 0, 1) := by decide +kernel
theorem dX2_refill_11 : decode cX2_refill 11 = .ok (.iload_n 3, 1) := by decide +kernel
theorem dX2_refill_12 : decode cX2_refill 12 = .ok (.putfield 18, 3) := by decide +kernel
theorem dX2_refill_15 : decode cX2_refill 15 = .ok (.aload_n 0, 1) := by decide +kernel
theorem dX2_refill_16 : decode cX2_refill 16 = .ok (.iload 4, 2) := by decide +kernel
theorem dX2_refill_18 : decode cX2_refill 18 = .ok (.putfield 21, 3) := by decide +kernel
theorem dX2_refill_21 : decode cX2_refill 21 = .ok (.aload_n 0, 1) := by decide +kernel
theorem dX2_refill_22 : decode cX2_refill 22 = .ok (.invokevirtual 97, 3) := by decide +kernel
theorem dX2_refill_25 : decode cX2_refill 25 = .ok (.iconst 0, 1) := by decide +kernel
theorem dX2_refill_26 : decode cX2_refill 26 = .ok (.istore 5, 2) := by decide +kernel
theorem dX2_refill_28 : decode cX2_refill 28 = .ok (.iload 5, 2) := by decide +kernel
theorem dX2_refill_30 : decode cX2_refill 30 = .ok (.aload_n 0, 1) := by decide +kernel
theorem dX2_refill_31 : decode cX2_refill 31 = .ok (.getfield 37, 3) := by decide +kernel
theorem dX2_refill_34 : decode cX2_refill 34 = .ok (.invokevirtual 62, 3) := by decide +kernel
theorem dX2_refill_37 : decode cX2_refill 37 = .ok (.if_icmp .ge 28, 3) := by decide +kernel
theorem dX2_refill_40 : decode cX2_refill 40 = .ok (.aload_n 0, 1) := by decide +kernel
theorem dX2_refill_41 : decode cX2_refill 41 = .ok (.aload_n 0, 1) := by decide +kernel
theorem dX2_refill_42 : decode cX2_refill 42 = .ok (.getfield 37, 3) := by decide +kernel
theorem dX2_refill_45 : decode cX2_refill 45 = .ok (.iload 5, 2) := by decide +kernel
theorem dX2_refill_47 : decode cX2_refill 47 = .ok (.invokevirtual 66, 3) := by decide +kernel
theorem dX2_refill_50 : decode cX2_refill 50 = .ok (.invokevirtual 156, 3) := by decide +kernel
theorem dX2_refill_53 : decode cX2_refill 53 = .ok (.iconst (-1), 1) := by decide +kernel
theorem dX2_refill_54 : decode cX2_refill 54 = .ok (.if_icmp .ne 5, 3) := by decide +kernel
theorem dX2_refill_57 : decode cX2_refill 57 = .ok (.iconst 0, 1) := by decide +kernel
theorem dX2_refill_58 : decode cX2_refill 58 = .ok (.ireturn, 1) := by decide +kernel
theorem dX2_refill_59 : decode cX2_refill 59 = .ok (.iinc 5 1, 3) := by decide +kernel
theorem dX2_refill_62 : decode cX2_refill 62 = .ok (.goto (-34), 3) := by decide +kernel
theorem dX2_refill_65 : decode cX2_refill 65 = .ok (.iconst 1, 1) := by decide +kernel
theorem dX2_refill_66 : decode cX2_refill 66 = .ok (.ireturn, 1) := by decide +kernel
theorem dX2_refillWithSeed_0 : decode cX2_refillWithSeed 0 = .ok (.aload_n 0, 1) := by decide +kernel
theorem dX2_refillWithSeed_1 : decode cX2_refillWithSeed 1 = .ok (.aload_n 0, 1) := by decide +kernel
theorem dX2_refillWithSeed_2 : decode cX2_refillWithSeed 2 = .ok (.getfield 9, 3) := by decide +kernel
theorem dX2_refillWithSeed_5 : decode cX2_refillWithSeed 5 = .ok (.aload_n 0, 1) := by decide +kernel
theorem dX2_refillWithSeed_6 : decode cX2_refillWithSeed 6 = .ok (.getfield 15, 3) := by decide +kernel
theorem dX2_refillWithSeed_9 : decode cX2_refillWithSeed 9 = .ok (.aload_n 0, 1) := by decide +kernel
theorem dX2_refillWithSeed_10 : decode cX2_refillWithSeed 10 = .ok (.getfield 18, 3) := by decide +kernel
theorem dX2_refillWithSeed_13 : decode cX2_refillWithSeed 13 = .ok (.iload_n 1, 1) := by decide +kernel
theorem dX2_refillWithSeed_14 : decode cX2_refillWithSeed 14 = .ok (.invokevirtual 191, 3) := by decide +kernel
theorem dX2_refillWithSeed_17 : decode cX2_refillWithSeed 17 = .ok (.ireturn, 1) := by decide +kernel
theorem dX2_refillWithBits_0 : decode cX2_refillWithBits 0 = .ok (.aload_n 0, 1) := by decide +kernel
theorem dX2_refillWithBits_1 : decode cX2_refillWithBits 1 = .ok (.iload_n 1, 1) := by decide +kernel
theorem dX2_refillWithBits_2 : decode cX2_refillWithBits 2 = .ok (.iload_n 2, 1) := by decide +kernel
theorem dX2_refillWithBits_3 : decode cX2_refillWithBits 3 = .ok (.iload_n 3, 1) := by decide +kernel
theorem dX2_refillWithBits_4 : decode cX2_refillWithBits 4 = .ok (.aload_n 0, 1) := by decide +kernel
theorem dX2_refillWithBits_5 : decode cX2_refillWithBits 5 = .ok (.getfield 21, 3) := by decide +kernel
theorem dX2_refillWithBits_8 : decode cX2_refillWithBits 8 = .ok (.invokevirtual 191, 3) := by decide +kernel
theorem dX2_refillWithBits_11 : decode cX2_refillWithBits 11 = .ok (.ireturn, 1) := by decide +kernel
theorem dX2_distribute_0 : decode cX2_distribute 0 = .ok (.aload_n 0, 1) := by decide +kernel
theorem dX2_distribute_1 : decode cX2_distribute 1 = .ok (.iload_n 1, 1) := by decide +kernel
theorem dX2_distribute_2 : decode cX2_distribute 2 = .ok (.putfield 9, 3) := by decide +kernel
theorem dX2_distribute_5 : decode cX2_distribute 5 = .ok (.aload_n 0, 1) := by decide +kernel
theorem dX2_distribute_6 : decode cX2_distribute 6 = .ok (.iload_n 2, 1) := by decide +kernel
theorem dX2_distribute_7 : decode cX2_distribute 7 = .ok (.putfield 15, 3) := by decide +kernel
theorem dX2_distribute_10 : decode cX2_distribute 10 = .ok (.aload_n 0, 1) := by decide +kernel
theorem dX2_distribute_11 : decode cX2_distribute 11 = .ok (.iload_n 3, 1) := by decide +kernel
theorem dX2_distribute_12 : decode cX2_distribute 12 = .ok (.putfield 21, 3) := by decide +kernel
theorem dX2_distribute_15 : decode cX2_distribute 15 = .ok (.aload_n 0, 1) := by decide +kernel
theorem dX2_distribute_16 : decode cX2_distribute 16 = .ok (.invokevirtual 97, 3) := by decide +kernel
theorem dX2_distribute_19 : decode cX2_distribute 19 = .ok (.iconst 0, 1) := by decide +kernel
theorem dX2_distribute_20 : decode cX2_distribute 20 = .ok (.istore 4, 2) := by decide +kernel
theorem dX2_distribute_22 : decode cX2_distribute 22 = .ok (.iload 4, 2) := by decide +kernel
theorem dX2_distribute_24 : decode cX2_distribute 24 = .ok (.aload_n 0, 1) := by decide +kernel
theorem dX2_distribute_25 : decode cX2_distribute 25 = .ok (.getfield 37, 3) := by decide +kernel
theorem dX2_distribute_28 : decode cX2_distribute 28 = .ok (.invokevirtual 62, 3) := by decide +kernel
theorem dX2_distribute_31 : decode cX2_distribute 31 = .ok (.if_icmp .ge 28, 3) := by decide +kernel
theorem dX2_distribute_34 : decode cX2_distribute 34 = .ok (.aload_n 0, 1) := by decide +kernel
theorem dX2_distribute_35 : decode cX2_distribute 35 = .ok (.aload_n 0, 1) := by decide +kernel
theorem dX2_distribute_36 : decode cX2_distribute 36 = .ok (.getfield 37, 3) := by decide +kernel
theorem dX2_distribute_39 : decode cX2_distribute 39 = .ok (.iload 4, 2) := by decide +kernel
theorem dX2_distribute_41 : decode cX2_distribute 41 = .ok (.invokevirtual 66, 3) := by decide +kernel
theorem dX2_distribute_44 : decode cX2_distribute 44 = .ok (.invokevirtual 163, 3) := by decide +kernel
theorem dX2_distribute_47 : decode cX2_distribute 47 = .ok (.iconst (-1), 1) := by decide +kernel
theorem dX2_distribute_48 : decode cX2_distribute 48 = .ok (.if_icmp .ne 5, 3) := by decide +kernel
theorem dX2_distribute_51 : decode cX2_distribute 51 = .ok (.iconst 0, 1) := by decide +kernel
theorem dX2_distribute_52 : decode cX2_distribute 52 = .ok (.ireturn, 1) := by decide +kernel
theorem dX2_distribute_53 : decode cX2_distribute 53 = .ok (.iinc 4 1, 3) := by decide +kernel
theorem dX2_distribute_56 : decode cX2_distribute 56 = .ok (.goto (-34), 3) := by decide +kernel
theorem dX2_distribute_59 : decode cX2_distribute 59 = .ok (.iconst 1, 1) := by decide +kernel
theorem dX2_distribute_60 : decode cX2_distribute 60 = .ok (.ireturn, 1) := by decide +kernel
theorem dX2_insert_0 : decode cX2_insert 0 = .ok (.aload_n 0, 1) := by decide +kernel
theorem dX2_insert_1 : decode cX2_insert 1 = .ok (.getfield 44, 3) := by decide +kernel
theorem dX2_insert_4 : decode cX2_insert 4 = .ok (.invokevirtual 195, 3) := by decide +kernel
theorem dX2_insert_7 : decode cX2_insert 7 = .ok (.aload_n 0, 1) := by decide +kernel
theorem dX2_insert_8 : decode cX2_insert 8 = .ok (.iload_n 1, 1) := by decide +kernel
theorem dX2_insert_9 : decode cX2_insert 9 = .ok (.invokevirtual 150, 3) := by decide +kernel
theorem dX2_insert_12 : decode cX2_insert 12 = .ok (.istore_n 2, 1) := by decide +kernel
theorem dX2_insert_13 : decode cX2_insert 13 = .ok (.aload_n 0, 1) := by decide +kernel
theorem dX2_insert_14 : decode cX2_insert 14 = .ok (.iload_n 2, 1) := by decide +kernel
theorem dX2_insert_15 : decode cX2_insert 15 = .ok (.invokevirtual 198, 3) := by decide +kernel
theorem dX2_insert_18 : decode cX2_insert 18 = .ok (.ifCond .eq 5, 3) := by decide +kernel
theorem dX2_insert_21 : decode cX2_insert 21 = .ok (.iconst 0, 1) := by decide +kernel
theorem dX2_insert_22 : decode cX2_insert 22 = .ok (.ireturn, 1) := by decide +kernel
theorem dX2_insert_23 : decode cX2_insert 23 = .ok (.aload_n 0, 1) := by decide +kernel
theorem dX2_insert_24 : decode cX2_insert 24 = .ok (.iload_n 2, 1) := by decide +kernel
theorem dX2_insert_25 : decode cX2_insert 25 = .ok (.invokevirtual 201, 3) := by decide +kernel
theorem dX2_insert_28 : decode cX2_insert 28 = .ok (.istore_n 3, 1) := by decide +kernel
theorem dX2_insert_29 : decode cX2_insert 29 = .ok (.iload_n 3, 1) := by decide +kernel
theorem dX2_insert_30 : decode cX2_insert 30 = .ok (.iconst (-1), 1) := by decide +kernel
theorem dX2_insert_31 : decode cX2_insert 31 = .ok (.if_icmp .eq 5, 3) := by decide +kernel
theorem dX2_insert_34 : decode cX2_insert 34 = .ok (.iload_n 3, 1) := by decide +kernel
theorem dX2_insert_35 : decode cX2_insert 35 = .ok (.ireturn, 1) := by decide +kernel
theorem dX2_insert_36 : decode cX2_insert 36 = .ok (.aload_n 0, 1) := by decide +kernel
theorem dX2_insert_37 : decode cX2_insert 37 = .ok (.getfield 55, 3) := by decide +kernel
theorem dX2_insert_40 : decode cX2_insert 40 = .ok (.ifCond .lt 15, 3) := by decide +kernel
theorem dX2_insert_43 : decode cX2_insert 43 = .ok (.aload_n 0, 1) := by decide +kernel
theorem dX2_insert_44 : decode cX2_insert 44 = .ok (.getfield 55, 3) := by decide +kernel
theorem dX2_insert_47 : decode cX2_insert 47 = .ok (.aload_n 0, 1) := by decide +kernel
theorem dX2_insert_48 : decode cX2_insert 48 = .ok (.getfield 31, 3) := by decide +kernel
theorem dX2_insert_51 : decode cX2_insert 51 = .ok (.arraylength, 1) := by decide +kernel
theorem dX2_insert_52 : decode cX2_insert 52 = .ok (.if_icmp .lt 5, 3) := by decide +kernel
theorem dX2_insert_55 : decode cX2_insert 55 = .ok (.iconst (-1), 1) := by decide +kernel
theorem dX2_insert_56 : decode cX2_insert 56 = .ok (.ireturn, 1) := by decide +kernel
theorem dX2_insert_57 : decode cX2_insert 57 = .ok (.aload_n 0, 1) := by decide +kernel
theorem dX2_insert_58 : decode cX2_insert 58 = .ok (.getfield 31, 3) := by decide +kernel
theorem dX2_insert_61 : decode cX2_insert 61 = .ok (.aload_n 0, 1) := by decide +kernel
theorem dX2_insert_62 : decode cX2_insert 62 = .ok (.getfield 55, 3) := by decide +kernel
theorem dX2_insert_65 : decode cX2_insert 65 = .ok (.iload_n 2, 1) := by decide +kernel
theorem dX2_insert_66 : decode cX2_insert 66 = .ok (.iastore, 1) := by decide +kernel
theorem dX2_insert_67 : decode cX2_insert 67 = .ok (.aload_n 0, 1) := by decide +kernel
theorem dX2_insert_68 : decode cX2_insert 68 = .ok (.dup, 1) := by decide +kernel
theorem dX2_insert_69 : decode cX2_insert 69 = .ok (.getfield 55, 3) := by decide +kernel
theorem dX2_insert_72 : decode cX2_insert 72 = .ok (.iconst 1, 1) := by decide +kernel
theorem dX2_insert_73 : decode cX2_insert 73 = .ok (.iadd, 1) := by decide +kernel
theorem dX2_insert_74 : decode cX2_insert 74 = .ok (.putfield 55, 3) := by decide +kernel
theorem dX2_insert_77 : decode cX2_insert 77 = .ok (.bipush 100, 2) := by decide +kernel
theorem dX2_insert_79 : decode cX2_insert 79 = .ok (.ireturn, 1) := by decide +kernel
theorem dX2_insertShortest_0 : decode cX2_insertShortest 0 = .ok (.aload_n 0, 1) := by decide +kernel
theorem dX2_insertShortest_1 : decode cX2_insertShortest 1 = .ok (.iload_n 1, 1) := by decide +kernel
theorem dX2_insertShortest_2 : decode cX2_insertShortest 2 = .ok (.invokevirtual 150, 3) := by decide +kernel
theorem dX2_insertShortest_5 : decode cX2_insertShortest 5 = .ok (.istore_n 2, 1) := by decide +kernel
theorem dX2_insertShortest_6 : decode cX2_insertShortest 6 = .ok (.aload_n 0, 1) := by decide +kernel
theorem dX2_insertShortest_7 : decode cX2_insertShortest 7 = .ok (.iload_n 2, 1) := by decide +kernel
theorem dX2_insertShortest_8 : decode cX2_insertShortest 8 = .ok (.invokestatic 88, 3) := by decide +kernel
theorem dX2_insertShortest_11 : decode cX2_insertShortest 11 = .ok (.aload_n 0, 1) := by decide +kernel
theorem dX2_insertShortest_12 : decode cX2_insertShortest 12 = .ok (.iload_n 2, 1) := by decide +kernel
theorem dX2_insertShortest_13 : decode cX2_insertShortest 13 = .ok (.invokevirtual 204, 3) := by decide +kernel
theorem dX2_insertShortest_16 : decode cX2_insertShortest 16 = .ok (.invokevirtual 207, 3) := by decide +kernel
theorem dX2_insertShortest_19 : decode cX2_insertShortest 19 = .ok (.istore_n 3, 1) := by decide +kernel
theorem dX2_insertShortest_20 : decode cX2_insertShortest 20 = .ok (.iload_n 3, 1) := by decide +kernel
theorem dX2_insertShortest_21 : decode cX2_insertShortest 21 = .ok (.iconst (-1), 1) := by decide +kernel
theorem dX2_insertShortest_22 : decode cX2_insertShortest 22 = .ok (.if_icmp .ne 7, 3) := by decide +kernel
theorem dX2_insertShortest_25 : decode cX2_insertShortest 25 = .ok (.iconst (-1), 1) := by decide +kernel
theorem dX2_insertShortest_26 : decode cX2_insertShortest 26 = .ok (.goto 9, 3) := by decide +kernel
theorem dX2_insertShortest_29 : decode cX2_insertShortest 29 = .ok (.aload_n 0, 1) := by decide +kernel
theorem dX2_insertShortest_30 : decode cX2_insertShortest 30 = .ok (.iload_n 3, 1) := by decide +kernel
theorem dX2_insertShortest_31 : decode cX2_insertShortest 31 = .ok (.iload_n 2, 1) := by decide +kernel
theorem dX2_insertShortest_32 : decode cX2_insertShortest 32 = .ok (.invokevirtual 210, 3) := by decide +kernel
theorem dX2_insertShortest_35 : decode cX2_insertShortest 35 = .ok (.ireturn, 1) := by decide +kernel
theorem dX2_settle_0 : decode cX2_settle 0 = .ok (.aload_n 0, 1) := by decide +kernel
theorem dX2_settle_1 : decode cX2_settle 1 = .ok (.iload_n 1, 1) := by decide +kernel
theorem dX2_settle_2 : decode cX2_settle 2 = .ok (.invokestatic 88, 3) := by decide +kernel
theorem dX2_settle_5 : decode cX2_settle 5 = .ok (.invokevirtual 213, 3) := by decide +kernel
theorem dX2_settle_8 : decode cX2_settle 8 = .ok (.istore_n 2, 1) := by decide +kernel
theorem dX2_settle_9 : decode cX2_settle 9 = .ok (.iload_n 2, 1) := by decide +kernel
theorem dX2_settle_10 : decode cX2_settle 10 = .ok (.iconst (-1), 1) := by decide +kernel
theorem dX2_settle_11 : decode cX2_settle 11 = .ok (.if_icmp .ne 13, 3) := by decide +kernel
theorem dX2_settle_14 : decode cX2_settle 14 = .ok (.aload_n 0, 1) := by decide +kernel
theorem dX2_settle_15 : decode cX2_settle 15 = .ok (.aload_n 0, 1) := by decide +kernel
theorem dX2_settle_16 : decode cX2_settle 16 = .ok (.iload_n 1, 1) := by decide +kernel
theorem dX2_settle_17 : decode cX2_settle 17 = .ok (.invokevirtual 204, 3) := by decide +kernel
theorem dX2_settle_20 : decode cX2_settle 20 = .ok (.invokevirtual 213, 3) := by decide +kernel
theorem dX2_settle_23 : decode cX2_settle 23 = .ok (.istore_n 2, 1) := by decide +kernel
theorem dX2_settle_24 : decode cX2_settle 24 = .ok (.iload_n 2, 1) := by decide +kernel
theorem dX2_settle_25 : decode cX2_settle 25 = .ok (.iconst (-1), 1) := by decide +kernel
theorem dX2_settle_26 : decode cX2_settle 26 = .ok (.if_icmp .ne 5, 3) := by decide +kernel
theorem dX2_settle_29 : decode cX2_settle 29 = .ok (.iconst 0, 1) := by decide +kernel
theorem dX2_settle_30 : decode cX2_settle 30 = .ok (.ireturn, 1) := by decide +kernel
theorem dX2_settle_31 : decode cX2_settle 31 = .ok (.aload_n 0, 1) := by decide +kernel
theorem dX2_settle_32 : decode cX2_settle 32 = .ok (.iload_n 2, 1) := by decide +kernel
theorem dX2_settle_33 : decode cX2_settle 33 = .ok (.iload_n 1, 1) := by decide +kernel
theorem dX2_settle_34 : decode cX2_settle 34 = .ok (.invokevirtual 131, 3) := by decide +kernel
theorem dX2_settle_37 : decode cX2_settle 37 = .ok (.iconst 1, 1) := by decide +kernel
theorem dX2_settle_38 : decode cX2_settle 38 = .ok (.ireturn, 1) := by decide +kernel
theorem dX2_wander_0 : decode cX2_wander 0 = .ok (.iload_n 1, 1) := by decide +kernel
theorem dX2_wander_1 : decode cX2_wander 1 = .ok (.istore_n 2, 1) := by decide +kernel
theorem dX2_wander_2 : decode cX2_wander 2 = .ok (.iload_n 1, 1) := by decide +kernel
theorem dX2_wander_3 : decode cX2_wander 3 = .ok (.invokestatic 88, 3) := by decide +kernel
theorem dX2_wander_6 : decode cX2_wander 6 = .ok (.istore_n 3, 1) := by decide +kernel
theorem dX2_wander_7 : decode cX2_wander 7 = .ok (.iconst 0, 1) := by decide +kernel
theorem dX2_wander_8 : decode cX2_wander 8 = .ok (.istore 4, 2) := by decide +kernel
theorem dX2_wander_10 : decode cX2_wander 10 = .ok (.iconst 0, 1) := by decide +kernel
theorem dX2_wander_11 : decode cX2_wander 11 = .ok (.istore 5, 2) := by decide +kernel
theorem dX2_wander_13 : decode cX2_wander 13 = .ok (.iload 5, 2) := by decide +kernel
theorem dX2_wander_15 : decode cX2_wander 15 = .ok (.aload_n 0, 1) := by decide +kernel
theorem dX2_wander_16 : decode cX2_wander 16 = .ok (.getfield 24, 3) := by decide +kernel
theorem dX2_wander_19 : decode cX2_wander 19 = .ok (.if_icmp .ge 115, 3) := by decide +kernel
theorem dX2_wander_22 : decode cX2_wander 22 = .ok (.iload 5, 2) := by decide +kernel
theorem dX2_wander_24 : decode cX2_wander 24 = .ok (.bipush 50, 2) := by decide +kernel
theorem dX2_wander_26 : decode cX2_wander 26 = .ok (.if_icmp .ge 108, 3) := by decide +kernel
theorem dX2_wander_29 : decode cX2_wander 29 = .ok (.iload_n 3, 1) := by decide +kernel
theorem dX2_wander_30 : decode cX2_wander 30 = .ok (.iload 4, 2) := by decide +kernel
theorem dX2_wander_32 : decode cX2_wander 32 = .ok (.invokestatic 116, 3) := by decide +kernel
theorem dX2_wander_35 : decode cX2_wander 35 = .ok (.istore 6, 2) := by decide +kernel
theorem dX2_wander_37 : decode cX2_wander 37 = .ok (.aload_n 0, 1) := by decide +kernel
theorem dX2_wander_38 : decode cX2_wander 38 = .ok (.iload 6, 2) := by decide +kernel
theorem dX2_wander_40 : decode cX2_wander 40 = .ok (.invokevirtual 119, 3) := by decide +kernel
theorem dX2_wander_43 : decode cX2_wander 43 = .ok (.istore 7, 2) := by decide +kernel
theorem dX2_wander_45 : decode cX2_wander 45 = .ok (.aload_n 0, 1) := by decide +kernel
theorem dX2_wander_46 : decode cX2_wander 46 = .ok (.iload 6, 2) := by decide +kernel
theorem dX2_wander_48 : decode cX2_wander 48 = .ok (.iload_n 2, 1) := by decide +kernel
theorem dX2_wander_49 : decode cX2_wander 49 = .ok (.invokevirtual 131, 3) := by decide +kernel
theorem dX2_wander_52 : decode cX2_wander 52 = .ok (.aload_n 0, 1) := by decide +kernel
theorem dX2_wander_53 : decode cX2_wander 53 = .ok (.getfield 44, 3) := by decide +kernel
theorem dX2_wander_56 : decode cX2_wander 56 = .ok (.iload 6, 2) := by decide +kernel
theorem dX2_wander_58 : decode cX2_wander 58 = .ok (.iload 7, 2) := by decide +kernel
theorem dX2_wander_60 : decode cX2_wander 60 = .ok (.invokestatic 91, 3) := by decide +kernel
theorem dX2_wander_63 : decode cX2_wander 63 = .ok (.invokevirtual 216, 3) := by decide +kernel
theorem dX2_wander_66 : decode cX2_wander 66 = .ok (.iload 7, 2) := by decide +kernel
theorem dX2_wander_68 : decode cX2_wander 68 = .ok (.istore_n 2, 1) := by decide +kernel
theorem dX2_wander_69 : decode cX2_wander 69 = .ok (.iload_n 3, 1) := by decide +kernel
theorem dX2_wander_70 : decode cX2_wander 70 = .ok (.iload_n 2, 1) := by decide +kernel
theorem dX2_wander_71 : decode cX2_wander 71 = .ok (.invokestatic 91, 3) := by decide +kernel
theorem dX2_wander_74 : decode cX2_wander 74 = .ok (.aload_n 0, 1) := by decide +kernel
theorem dX2_wander_75 : decode cX2_wander 75 = .ok (.getfield 9, 3) := by decide +kernel
theorem dX2_wander_78 : decode cX2_wander 78 = .ok (.invokestatic 94, 3) := by decide +kernel
theorem dX2_wander_81 : decode cX2_wander 81 = .ok (.istore_n 3, 1) := by decide +kernel
theorem dX2_wander_82 : decode cX2_wander 82 = .ok (.aload_n 0, 1) := by decide +kernel
theorem dX2_wander_83 : decode cX2_wander 83 = .ok (.iload_n 3, 1) := by decide +kernel
theorem dX2_wander_84 : decode cX2_wander 84 = .ok (.invokevirtual 213, 3) := by decide +kernel
theorem dX2_wander_87 : decode cX2_wander 87 = .ok (.istore 8, 2) := by decide +kernel
theorem dX2_wander_89 : decode cX2_wander 89 = .ok (.iload 8, 2) := by decide +kernel
theorem dX2_wander_91 : decode cX2_wander 91 = .ok (.iconst (-1), 1) := by decide +kernel
theorem dX2_wander_92 : decode cX2_wander 92 = .ok (.if_icmp .eq 15, 3) := by decide +kernel
theorem dX2_wander_95 : decode cX2_wander 95 = .ok (.aload_n 0, 1) := by decide +kernel
theorem dX2_wander_96 : decode cX2_wander 96 = .ok (.iload 8, 2) := by decide +kernel
theorem dX2_wander_98 : decode cX2_wander 98 = .ok (.iload_n 2, 1) := by decide +kernel
theorem dX2_wander_99 : decode cX2_wander 99 = .ok (.invokevirtual 131, 3) := by decide +kernel
theorem dX2_wander_102 : decode cX2_wander 102 = .ok (.iload 5, 2) := by decide +kernel
theorem dX2_wander_104 : decode cX2_wander 104 = .ok (.iconst 1, 1) := by decide +kernel
theorem dX2_wander_105 : decode cX2_wander 105 = .ok (.iadd, 1) := by decide +kernel
theorem dX2_wander_106 : decode cX2_wander 106 = .ok (.ireturn, 1) := by decide +kernel
theorem dX2_wander_107 : decode cX2_wander 107 = .ok (.iload 4, 2) := by decide +kernel
theorem dX2_wander_109 : decode cX2_wander 109 = .ok (.iconst 1, 1) := by decide +kernel
theorem dX2_wander_110 : decode cX2_wander 110 = .ok (.iadd, 1) := by decide +kernel
theorem dX2_wander_111 : decode cX2_wander 111 = .ok (.aload_n 0, 1) := by decide +kernel
theorem dX2_wander_112 : decode cX2_wander 112 = .ok (.getfield 15, 3) := by decide +kernel
theorem dX2_wander_115 : decode cX2_wander 115 = .ok (.if_icmp .ge 10, 3) := by decide +kernel
theorem dX2_wander_118 : decode cX2_wander 118 = .ok (.iload 4, 2) := by decide +kernel
theorem dX2_wander_120 : decode cX2_wander 120 = .ok (.iconst 1, 1) := by decide +kernel
theorem dX2_wander_121 : decode cX2_wander 121 = .ok (.iadd, 1) := by decide +kernel
theorem dX2_wander_122 : decode cX2_wander 122 = .ok (.goto 4, 3) := by decide +kernel
theorem dX2_wander_125 : decode cX2_wander 125 = .ok (.iconst 0, 1) := by decide +kernel
theorem dX2_wander_126 : decode cX2_wander 126 = .ok (.istore 4, 2) := by decide +kernel
theorem dX2_wander_128 : decode cX2_wander 128 = .ok (.iinc 5 1, 3) := by decide +kernel
theorem dX2_wander_131 : decode cX2_wander 131 = .ok (.goto (-118), 3) := by decide +kernel
theorem dX2_wander_134 : decode cX2_wander 134 = .ok (.aload_n 0, 1) := by decide +kernel
theorem dX2_wander_135 : decode cX2_wander 135 = .ok (.iload_n 2, 1) := by decide +kernel
theorem dX2_wander_136 : decode cX2_wander 136 = .ok (.invokevirtual 219, 3) := by decide +kernel
theorem dX2_wander_139 : decode cX2_wander 139 = .ok (.iconst (-1), 1) := by decide +kernel
theorem dX2_wander_140 : decode cX2_wander 140 = .ok (.ireturn, 1) := by decide +kernel
theorem dX2_walkBack_0 : decode cX2_walkBack 0 = .ok (.iload_n 1, 1) := by decide +kernel
theorem dX2_walkBack_1 : decode cX2_walkBack 1 = .ok (.istore_n 2, 1) := by decide +kernel
theorem dX2_walkBack_2 : decode cX2_walkBack 2 = .ok (.aload_n 0, 1) := by decide +kernel
theorem dX2_walkBack_3 : decode cX2_walkBack 3 = .ok (.getfield 44, 3) := by decide +kernel
theorem dX2_walkBack_6 : decode cX2_walkBack 6 = .ok (.invokevirtual 222, 3) := by decide +kernel
theorem dX2_walkBack_9 : decode cX2_walkBack 9 = .ok (.iconst 1, 1) := by decide +kernel
theorem dX2_walkBack_10 : decode cX2_walkBack 10 = .ok (.isub, 1) := by decide +kernel
theorem dX2_walkBack_11 : decode cX2_walkBack 11 = .ok (.istore_n 3, 1) := by decide +kernel
theorem dX2_walkBack_12 : decode cX2_walkBack 12 = .ok (.iload_n 3, 1) := by decide +kernel
theorem dX2_walkBack_13 : decode cX2_walkBack 13 = .ok (.ifCond .lt 37, 3) := by decide +kernel
theorem dX2_walkBack_16 : decode cX2_walkBack 16 = .ok (.aload_n 0, 1) := by decide +kernel
theorem dX2_walkBack_17 : decode cX2_walkBack 17 = .ok (.getfield 44, 3) := by decide +kernel
theorem dX2_walkBack_20 : decode cX2_walkBack 20 = .ok (.iload_n 3, 1) := by decide +kernel
theorem dX2_walkBack_21 : decode cX2_walkBack 21 = .ok (.invokevirtual 225, 3) := by decide +kernel
theorem dX2_walkBack_24 : decode cX2_walkBack 24 = .ok (.istore 4, 2) := by decide +kernel
theorem dX2_walkBack_26 : decode cX2_walkBack 26 = .ok (.aload_n 0, 1) := by decide +kernel
theorem dX2_walkBack_27 : decode cX2_walkBack 27 = .ok (.iload 4, 2) := by decide +kernel
theorem dX2_walkBack_29 : decode cX2_walkBack 29 = .ok (.invokevirtual 119, 3) := by decide +kernel
theorem dX2_walkBack_32 : decode cX2_walkBack 32 = .ok (.istore 5, 2) := by decide +kernel
theorem dX2_walkBack_34 : decode cX2_walkBack 34 = .ok (.aload_n 0, 1) := by decide +kernel
theorem dX2_walkBack_35 : decode cX2_walkBack 35 = .ok (.iload 4, 2) := by decide +kernel
theorem dX2_walkBack_37 : decode cX2_walkBack 37 = .ok (.iload_n 2, 1) := by decide +kernel
theorem dX2_walkBack_38 : decode cX2_walkBack 38 = .ok (.invokevirtual 131, 3) := by decide +kernel
theorem dX2_walkBack_41 : decode cX2_walkBack 41 = .ok (.iload 5, 2) := by decide +kernel
theorem dX2_walkBack_43 : decode cX2_walkBack 43 = .ok (.istore_n 2, 1) := by decide +kernel
theorem dX2_walkBack_44 : decode cX2_walkBack 44 = .ok (.iinc 3 (-1), 3) := by decide +kernel
theorem dX2_walkBack_47 : decode cX2_walkBack 47 = .ok (.goto (-35), 3) := by decide +kernel
theorem dX2_walkBack_50 : decode cX2_walkBack 50 = .ok (.return_, 1) := by decide +kernel
theorem dX2_endOfChain_0 : decode cX2_endOfChain 0 = .ok (.aload_n 0, 1) := by decide +kernel
theorem dX2_endOfChain_1 : decode cX2_endOfChain 1 = .ok (.getfield 51, 3) := by decide +kernel
theorem dX2_endOfChain_4 : decode cX2_endOfChain 4 = .ok (.invokevirtual 228, 3) := by decide +kernel
theorem dX2_endOfChain_7 : decode cX2_endOfChain 7 = .ok (.aload_n 0, 1) := by decide +kernel
theorem dX2_endOfChain_8 : decode cX2_endOfChain 8 = .ok (.getfield 51, 3) := by decide +kernel
theorem dX2_endOfChain_11 : decode cX2_endOfChain 11 = .ok (.iload_n 1, 1) := by decide +kernel
theorem dX2_endOfChain_12 : decode cX2_endOfChain 12 = .ok (.iconst (-1), 1) := by decide +kernel
theorem dX2_endOfChain_13 : decode cX2_endOfChain 13 = .ok (.invokevirtual 229, 3) := by decide +kernel
theorem dX2_endOfChain_16 : decode cX2_endOfChain 16 = .ok (.aload_n 0, 1) := by decide +kernel
theorem dX2_endOfChain_17 : decode cX2_endOfChain 17 = .ok (.getfield 51, 3) := by decide +kernel
theorem dX2_endOfChain_20 : decode cX2_endOfChain 20 = .ok (.iload_n 2, 1) := by decide +kernel
theorem dX2_endOfChain_21 : decode cX2_endOfChain 21 = .ok (.iconst (-1), 1) := by decide +kernel
theorem dX2_endOfChain_22 : decode cX2_endOfChain 22 = .ok (.invokevirtual 229, 3) := by decide +kernel
theorem dX2_endOfChain_25 : decode cX2_endOfChain 25 = .ok (.iconst 0, 1) := by decide +kernel
theorem dX2_endOfChain_26 : decode cX2_endOfChain 26 = .ok (.istore_n 3, 1) := by decide +kernel
theorem dX2_endOfChain_27 : decode cX2_endOfChain 27 = .ok (.iload_n 3, 1) := by decide +kernel
theorem dX2_endOfChain_28 : decode cX2_endOfChain 28 = .ok (.bipush 64, 2) := by decide +kernel
theorem dX2_endOfChain_30 : decode cX2_endOfChain 30 = .ok (.if_icmp .ge 97, 3) := by decide +kernel
theorem dX2_endOfChain_33 : decode cX2_endOfChain 33 = .ok (.iload_n 3, 1) := by decide +kernel
theorem dX2_endOfChain_34 : decode cX2_endOfChain 34 = .ok (.aload_n 0, 1) := by decide +kernel
theorem dX2_endOfChain_35 : decode cX2_endOfChain 35 = .ok (.getfield 51, 3) := by decide +kernel
theorem dX2_endOfChain_38 : decode cX2_endOfChain 38 = .ok (.invokevirtual 230, 3) := by decide +kernel
theorem dX2_endOfChain_41 : decode cX2_endOfChain 41 = .ok (.if_icmp .ge 86, 3) := by decide +kernel
theorem dX2_endOfChain_44 : decode cX2_endOfChain 44 = .ok (.aload_n 0, 1) := by decide +kernel
theorem dX2_endOfChain_45 : decode cX2_endOfChain 45 = .ok (.getfield 51, 3) := by decide +kernel
theorem dX2_endOfChain_48 : decode cX2_endOfChain 48 = .ok (.iload_n 3, 1) := by decide +kernel
theorem dX2_endOfChain_49 : decode cX2_endOfChain 49 = .ok (.invokevirtual 231, 3) := by decide +kernel
theorem dX2_endOfChain_52 : decode cX2_endOfChain 52 = .ok (.istore 4, 2) := by decide +kernel
theorem dX2_endOfChain_54 : decode cX2_endOfChain 54 = .ok (.aload_n 0, 1) := by decide +kernel
theorem dX2_endOfChain_55 : decode cX2_endOfChain 55 = .ok (.iload 4, 2) := by decide +kernel
theorem dX2_endOfChain_57 : decode cX2_endOfChain 57 = .ok (.invokevirtual 213, 3) := by decide +kernel
theorem dX2_endOfChain_60 : decode cX2_endOfChain 60 = .ok (.iconst (-1), 1) := by decide +kernel
theorem dX2_endOfChain_61 : decode cX2_endOfChain 61 = .ok (.if_icmp .eq 6, 3) := by decide +kernel
theorem dX2_endOfChain_64 : decode cX2_endOfChain 64 = .ok (.iload 4, 2) := by decide +kernel
theorem dX2_endOfChain_66 : decode cX2_endOfChain 66 = .ok (.ireturn, 1) := by decide +kernel
theorem dX2_endOfChain_67 : decode cX2_endOfChain 67 = .ok (.iconst 0, 1) := by decide +kernel
theorem dX2_endOfChain_68 : decode cX2_endOfChain 68 = .ok (.istore 5, 2) := by decide +kernel
theorem dX2_endOfChain_70 : decode cX2_endOfChain 70 = .ok (.iload 5, 2) := by decide +kernel
theorem dX2_endOfChain_72 : decode cX2_endOfChain 72 = .ok (.aload_n 0, 1) := by decide +kernel
theorem dX2_endOfChain_73 : decode cX2_endOfChain 73 = .ok (.getfield 15, 3) := by decide +kernel
theorem dX2_endOfChain_76 : decode cX2_endOfChain 76 = .ok (.if_icmp .ge 45, 3) := by decide +kernel
theorem dX2_endOfChain_79 : decode cX2_endOfChain 79 = .ok (.iload 4, 2) := by decide +kernel
theorem dX2_endOfChain_81 : decode cX2_endOfChain 81 = .ok (.iload 5, 2) := by decide +kernel
theorem dX2_endOfChain_83 : decode cX2_endOfChain 83 = .ok (.invokestatic 116, 3) := by decide +kernel
theorem dX2_endOfChain_86 : decode cX2_endOfChain 86 = .ok (.istore 6, 2) := by decide +kernel
theorem dX2_endOfChain_88 : decode cX2_endOfChain 88 = .ok (.aload_n 0, 1) := by decide +kernel
theorem dX2_endOfChain_89 : decode cX2_endOfChain 89 = .ok (.getfield 51, 3) := by decide +kernel
theorem dX2_endOfChain_92 : decode cX2_endOfChain 92 = .ok (.iload 4, 2) := by decide +kernel
theorem dX2_endOfChain_94 : decode cX2_endOfChain 94 = .ok (.aload_n 0, 1) := by decide +kernel
theorem dX2_endOfChain_95 : decode cX2_endOfChain 95 = .ok (.iload 6, 2) := by decide +kernel
theorem dX2_endOfChain_97 : decode cX2_endOfChain 97 = .ok (.invokevirtual 119, 3) := by decide +kernel
theorem dX2_endOfChain_100 : decode cX2_endOfChain 100 = .ok (.invokestatic 91, 3) := by decide +kernel
theorem dX2_endOfChain_103 : decode cX2_endOfChain 103 = .ok (.aload_n 0, 1) := by decide +kernel
theorem dX2_endOfChain_104 : decode cX2_endOfChain 104 = .ok (.getfield 9, 3) := by decide +kernel
theorem dX2_endOfChain_107 : decode cX2_endOfChain 107 = .ok (.invokestatic 94, 3) := by decide +kernel
theorem dX2_endOfChain_110 : decode cX2_endOfChain 110 = .ok (.iload 6, 2) := by decide +kernel
theorem dX2_endOfChain_112 : decode cX2_endOfChain 112 = .ok (.invokevirtual 229, 3) := by decide +kernel
theorem dX2_endOfChain_115 : decode cX2_endOfChain 115 = .ok (.iinc 5 1, 3) := by decide +kernel
theorem dX2_endOfChain_118 : decode cX2_endOfChain 118 = .ok (.goto (-48), 3) := by decide +kernel
theorem dX2_endOfChain_121 : decode cX2_endOfChain 121 = .ok (.iinc 3 1, 3) := by decide +kernel
theorem dX2_endOfChain_124 : decode cX2_endOfChain 124 = .ok (.goto (-97), 3) := by decide +kernel
theorem dX2_endOfChain_127 : decode cX2_endOfChain 127 = .ok (.iconst (-1), 1) := by decide +kernel
theorem dX2_endOfChain_128 : decode cX2_endOfChain 128 = .ok (.ireturn, 1) := by decide +kernel
theorem dX2_moveAlong_0 : decode cX2_moveAlong 0 = .ok (.aload_n 0, 1) := by decide +kernel
theorem dX2_moveAlong_1 : decode cX2_moveAlong 1 = .ok (.iload_n 1, 1) := by decide +kernel
theorem dX2_moveAlong_2 : decode cX2_moveAlong 2 = .ok (.invokevirtual 213, 3) := by decide +kernel
theorem dX2_moveAlong_5 : decode cX2_moveAlong 5 = .ok (.istore_n 3, 1) := by decide +kernel
theorem dX2_moveAlong_6 : decode cX2_moveAlong 6 = .ok (.iconst 0, 1) := by decide +kernel
theorem dX2_moveAlong_7 : decode cX2_moveAlong 7 = .ok (.istore 4, 2) := by decide +kernel
theorem dX2_moveAlong_9 : decode cX2_moveAlong 9 = .ok (.iload 4, 2) := by decide +kernel
theorem dX2_moveAlong_11 : decode cX2_moveAlong 11 = .ok (.bipush 64, 2) := by decide +kernel
theorem dX2_moveAlong_13 : decode cX2_moveAlong 13 = .ok (.if_icmp .ge 43, 3) := by decide +kernel
theorem dX2_moveAlong_16 : decode cX2_moveAlong 16 = .ok (.aload_n 0, 1) := by decide +kernel
theorem dX2_moveAlong_17 : decode cX2_moveAlong 17 = .ok (.getfield 51, 3) := by decide +kernel
theorem dX2_moveAlong_20 : decode cX2_moveAlong 20 = .ok (.iload_n 3, 1) := by decide +kernel
theorem dX2_moveAlong_21 : decode cX2_moveAlong 21 = .ok (.iconst 4, 1) := by decide +kernel
theorem dX2_moveAlong_22 : decode cX2_moveAlong 22 = .ok (.idiv, 1) := by decide +kernel
theorem dX2_moveAlong_23 : decode cX2_moveAlong 23 = .ok (.invokevirtual 234, 3) := by decide +kernel
theorem dX2_moveAlong_26 : decode cX2_moveAlong 26 = .ok (.istore 5, 2) := by decide +kernel
theorem dX2_moveAlong_28 : decode cX2_moveAlong 28 = .ok (.iload 5, 2) := by decide +kernel
theorem dX2_moveAlong_30 : decode cX2_moveAlong 30 = .ok (.ifCond .ge 6, 3) := by decide +kernel
theorem dX2_moveAlong_33 : decode cX2_moveAlong 33 = .ok (.goto 23, 3) := by decide +kernel
theorem dX2_moveAlong_36 : decode cX2_moveAlong 36 = .ok (.aload_n 0, 1) := by decide +kernel
theorem dX2_moveAlong_37 : decode cX2_moveAlong 37 = .ok (.iload_n 3, 1) := by decide +kernel
theorem dX2_moveAlong_38 : decode cX2_moveAlong 38 = .ok (.aload_n 0, 1) := by decide +kernel
theorem dX2_moveAlong_39 : decode cX2_moveAlong 39 = .ok (.iload 5, 2) := by decide +kernel
theorem dX2_moveAlong_41 : decode cX2_moveAlong 41 = .ok (.invokevirtual 119, 3) := by decide +kernel
theorem dX2_moveAlong_44 : decode cX2_moveAlong 44 = .ok (.invokevirtual 131, 3) := by decide +kernel
theorem dX2_moveAlong_47 : decode cX2_moveAlong 47 = .ok (.iload 5, 2) := by decide +kernel
theorem dX2_moveAlong_49 : decode cX2_moveAlong 49 = .ok (.istore_n 3, 1) := by decide +kernel
theorem dX2_moveAlong_50 : decode cX2_moveAlong 50 = .ok (.iinc 4 1, 3) := by decide +kernel
theorem dX2_moveAlong_53 : decode cX2_moveAlong 53 = .ok (.goto (-44), 3) := by decide +kernel
theorem dX2_moveAlong_56 : decode cX2_moveAlong 56 = .ok (.aload_n 0, 1) := by decide +kernel
theorem dX2_moveAlong_57 : decode cX2_moveAlong 57 = .ok (.iload_n 3, 1) := by decide +kernel
theorem dX2_moveAlong_58 : decode cX2_moveAlong 58 = .ok (.iload_n 2, 1) := by decide +kernel
theorem dX2_moveAlong_59 : decode cX2_moveAlong 59 = .ok (.invokevirtual 131, 3) := by decide +kernel
theorem dX2_moveAlong_62 : decode cX2_moveAlong 62 = .ok (.iload 4, 2) := by decide +kernel
theorem dX2_moveAlong_64 : decode cX2_moveAlong 64 = .ok (.ireturn, 1) := by decide +kernel
theorem dX2_removeEntry_0 : decode cX2_removeEntry 0 = .ok (.iload_n 1, 1) := by decide +kernel
theorem dX2_removeEntry_1 : decode cX2_removeEntry 1 = .ok (.sipush 1000, 3) := by decide +kernel
theorem dX2_removeEntry_4 : decode cX2_removeEntry 4 = .ok (.if_icmp .ge 10, 3) := by decide +kernel
theorem dX2_removeEntry_7 : decode cX2_removeEntry 7 = .ok (.aload_n 0, 1) := by decide +kernel
theorem dX2_removeEntry_8 : decode cX2_removeEntry 8 = .ok (.iload_n 1, 1) := by decide +kernel
theorem dX2_removeEntry_9 : decode cX2_removeEntry 9 = .ok (.iconst (-1), 1) := by decide +kernel
theorem dX2_removeEntry_10 : decode cX2_removeEntry 10 = .ok (.invokevirtual 131, 3) := by decide +kernel
theorem dX2_removeEntry_13 : decode cX2_removeEntry 13 = .ok (.return_, 1) := by decide +kernel
theorem dX2_removeEntry_14 : decode cX2_removeEntry 14 = .ok (.iload_n 1, 1) := by decide +kernel
theorem dX2_removeEntry_15 : decode cX2_removeEntry 15 = .ok (.sipush 1000, 3) := by decide +kernel
theorem dX2_removeEntry_18 : decode cX2_removeEntry 18 = .ok (.isub, 1) := by decide +kernel
theorem dX2_removeEntry_19 : decode cX2_removeEntry 19 = .ok (.istore_n 2, 1) := by decide +kernel
theorem dX2_removeEntry_20 : decode cX2_removeEntry 20 = .ok (.iload_n 2, 1) := by decide +kernel
theorem dX2_removeEntry_21 : decode cX2_removeEntry 21 = .ok (.ifCond .lt 44, 3) := by decide +kernel
theorem dX2_removeEntry_24 : decode cX2_removeEntry 24 = .ok (.iload_n 2, 1) := by decide +kernel
theorem dX2_removeEntry_25 : decode cX2_removeEntry 25 = .ok (.iconst 1, 1) := by decide +kernel
theorem dX2_removeEntry_26 : decode cX2_removeEntry 26 = .ok (.iadd, 1) := by decide +kernel
theorem dX2_removeEntry_27 : decode cX2_removeEntry 27 = .ok (.aload_n 0, 1) := by decide +kernel
theorem dX2_removeEntry_28 : decode cX2_removeEntry 28 = .ok (.getfield 55, 3) := by decide +kernel
theorem dX2_removeEntry_31 : decode cX2_removeEntry 31 = .ok (.if_icmp .ge 34, 3) := by decide +kernel
theorem dX2_removeEntry_34 : decode cX2_removeEntry 34 = .ok (.iload_n 2, 1) := by decide +kernel
theorem dX2_removeEntry_35 : decode cX2_removeEntry 35 = .ok (.iconst 1, 1) := by decide +kernel
theorem dX2_removeEntry_36 : decode cX2_removeEntry 36 = .ok (.iadd, 1) := by decide +kernel
theorem dX2_removeEntry_37 : decode cX2_removeEntry 37 = .ok (.aload_n 0, 1) := by decide +kernel
theorem dX2_removeEntry_38 : decode cX2_removeEntry 38 = .ok (.getfield 31, 3) := by decide +kernel
theorem dX2_removeEntry_41 : decode cX2_removeEntry 41 = .ok (.arraylength, 1) := by decide +kernel
theorem dX2_removeEntry_42 : decode cX2_removeEntry 42 = .ok (.if_icmp .ge 23, 3) := by decide +kernel
theorem dX2_removeEntry_45 : decode cX2_removeEntry 45 = .ok (.aload_n 0, 1) := by decide +kernel
theorem dX2_removeEntry_46 : decode cX2_removeEntry 46 = .ok (.getfield 31, 3) := by decide +kernel
theorem dX2_removeEntry_49 : decode cX2_removeEntry 49 = .ok (.iload_n 2, 1) := by decide +kernel
theorem dX2_removeEntry_50 : decode cX2_removeEntry 50 = .ok (.aload_n 0, 1) := by decide +kernel
theorem dX2_removeEntry_51 : decode cX2_removeEntry 51 = .ok (.getfield 31, 3) := by decide +kernel
theorem dX2_removeEntry_54 : decode cX2_removeEntry 54 = .ok (.iload_n 2, 1) := by decide +kernel
theorem dX2_removeEntry_55 : decode cX2_removeEntry 55 = .ok (.iconst 1, 1) := by decide +kernel
theorem dX2_removeEntry_56 : decode cX2_removeEntry 56 = .ok (.iadd, 1) := by decide +kernel
theorem dX2_removeEntry_57 : decode cX2_removeEntry 57 = .ok (.iaload, 1) := by decide +kernel
theorem dX2_removeEntry_58 : decode cX2_removeEntry 58 = .ok (.iastore, 1) := by decide +kernel
theorem dX2_removeEntry_59 : decode cX2_removeEntry 59 = .ok (.iinc 2 1, 3) := by decide +kernel
theorem dX2_removeEntry_62 : decode cX2_removeEntry 62 = .ok (.goto (-42), 3) := by decide +kernel
theorem dX2_removeEntry_65 : decode cX2_removeEntry 65 = .ok (.aload_n 0, 1) := by decide +kernel
theorem dX2_removeEntry_66 : decode cX2_removeEntry 66 = .ok (.dup, 1) := by decide +kernel
theorem dX2_removeEntry_67 : decode cX2_removeEntry 67 = .ok (.getfield 55, 3) := by decide +kernel
theorem dX2_removeEntry_70 : decode cX2_removeEntry 70 = .ok (.iconst 1, 1) := by decide +kernel
theorem dX2_removeEntry_71 : decode cX2_removeEntry 71 = .ok (.isub, 1) := by decide +kernel
theorem dX2_removeEntry_72 : decode cX2_removeEntry 72 = .ok (.putfield 55, 3) := by decide +kernel
theorem dX2_removeEntry_75 : decode cX2_removeEntry 75 = .ok (.return_, 1) := by decide +kernel
theorem dX2_leaveStash_0 : decode cX2_leaveStash 0 = .ok (.iconst 0, 1) := by decide +kernel
theorem dX2_leaveStash_1 : decode cX2_leaveStash 1 = .ok (.istore_n 1, 1) := by decide +kernel
theorem dX2_leaveStash_2 : decode cX2_leaveStash 2 = .ok (.iconst 0, 1) := by decide +kernel
theorem dX2_leaveStash_3 : decode cX2_leaveStash 3 = .ok (.istore_n 2, 1) := by decide +kernel
theorem dX2_leaveStash_4 : decode cX2_leaveStash 4 = .ok (.iconst 0, 1) := by decide +kernel
theorem dX2_leaveStash_5 : decode cX2_leaveStash 5 = .ok (.istore_n 3, 1) := by decide +kernel
theorem dX2_leaveStash_6 : decode cX2_leaveStash 6 = .ok (.iload_n 3, 1) := by decide +kernel
theorem dX2_leaveStash_7 : decode cX2_leaveStash 7 = .ok (.aload_n 0, 1) := by decide +kernel
theorem dX2_leaveStash_8 : decode cX2_leaveStash 8 = .ok (.getfield 55, 3) := by decide +kernel
theorem dX2_leaveStash_11 : decode cX2_leaveStash 11 = .ok (.if_icmp .ge 57, 3) := by decide +kernel
theorem dX2_leaveStash_14 : decode cX2_leaveStash 14 = .ok (.iload_n 3, 1) := by decide +kernel
theorem dX2_leaveStash_15 : decode cX2_leaveStash 15 = .ok (.aload_n 0, 1) := by decide +kernel
theorem dX2_leaveStash_16 : decode cX2_leaveStash 16 = .ok (.getfield 31, 3) := by decide +kernel
theorem dX2_leaveStash_19 : decode cX2_leaveStash 19 = .ok (.arraylength, 1) := by decide +kernel
theorem dX2_leaveStash_20 : decode cX2_leaveStash 20 = .ok (.if_icmp .ge 48, 3) := by decide +kernel
theorem dX2_leaveStash_23 : decode cX2_leaveStash 23 = .ok (.aload_n 0, 1) := by decide +kernel
theorem dX2_leaveStash_24 : decode cX2_leaveStash 24 = .ok (.getfield 31, 3) := by decide +kernel
theorem dX2_leaveStash_27 : decode cX2_leaveStash 27 = .ok (.iload_n 3, 1) := by decide +kernel
theorem dX2_leaveStash_28 : decode cX2_leaveStash 28 = .ok (.iaload, 1) := by decide +kernel
theorem dX2_leaveStash_29 : decode cX2_leaveStash 29 = .ok (.istore 4, 2) := by decide +kernel
theorem dX2_leaveStash_31 : decode cX2_leaveStash 31 = .ok (.aload_n 0, 1) := by decide +kernel
theorem dX2_leaveStash_32 : decode cX2_leaveStash 32 = .ok (.iload 4, 2) := by decide +kernel
theorem dX2_leaveStash_34 : decode cX2_leaveStash 34 = .ok (.invokevirtual 198, 3) := by decide +kernel
theorem dX2_leaveStash_37 : decode cX2_leaveStash 37 = .ok (.ifCond .eq 9, 3) := by decide +kernel
theorem dX2_leaveStash_40 : decode cX2_leaveStash 40 = .ok (.iinc 2 1, 3) := by decide +kernel
theorem dX2_leaveStash_43 : decode cX2_leaveStash 43 = .ok (.goto 19, 3) := by decide +kernel
theorem dX2_leaveStash_46 : decode cX2_leaveStash 46 = .ok (.iload_n 1, 1) := by decide +kernel
theorem dX2_leaveStash_47 : decode cX2_leaveStash 47 = .ok (.iload_n 3, 1) := by decide +kernel
theorem dX2_leaveStash_48 : decode cX2_leaveStash 48 = .ok (.if_icmp .gt 14, 3) := by decide +kernel
theorem dX2_leaveStash_51 : decode cX2_leaveStash 51 = .ok (.aload_n 0, 1) := by decide +kernel
theorem dX2_leaveStash_52 : decode cX2_leaveStash 52 = .ok (.getfield 31, 3) := by decide +kernel
theorem dX2_leaveStash_55 : decode cX2_leaveStash 55 = .ok (.iload_n 1, 1) := by decide +kernel
theorem dX2_leaveStash_56 : decode cX2_leaveStash 56 = .ok (.iload 4, 2) := by decide +kernel
theorem dX2_leaveStash_58 : decode cX2_leaveStash 58 = .ok (.iastore, 1) := by decide +kernel
theorem dX2_leaveStash_59 : decode cX2_leaveStash 59 = .ok (.iinc 1 1, 3) := by decide +kernel
theorem dX2_leaveStash_62 : decode cX2_leaveStash 62 = .ok (.iinc 3 1, 3) := by decide +kernel
theorem dX2_leaveStash_65 : decode cX2_leaveStash 65 = .ok (.goto (-59), 3) := by decide +kernel
theorem dX2_leaveStash_68 : decode cX2_leaveStash 68 = .ok (.aload_n 0, 1) := by decide +kernel
theorem dX2_leaveStash_69 : decode cX2_leaveStash 69 = .ok (.iload_n 1, 1) := by decide +kernel
theorem dX2_leaveStash_70 : decode cX2_leaveStash 70 = .ok (.putfield 55, 3) := by decide +kernel
theorem dX2_leaveStash_73 : decode cX2_leaveStash 73 = .ok (.iload_n 2, 1) := by decide +kernel
theorem dX2_leaveStash_74 : decode cX2_leaveStash 74 = .ok (.ireturn, 1) := by decide +kernel
theorem dX2_doubleSlot_0 : decode cX2_doubleSlot 0 = .ok (.aload_n 0, 1) := by decide +kernel
theorem dX2_doubleSlot_1 : decode cX2_doubleSlot 1 = .ok (.iload_n 1, 1) := by decide +kernel
theorem dX2_doubleSlot_2 : decode cX2_doubleSlot 2 = .ok (.iload_n 2, 1) := by decide +kernel
theorem dX2_doubleSlot_3 : decode cX2_doubleSlot 3 = .ok (.invokestatic 116, 3) := by decide +kernel
theorem dX2_doubleSlot_6 : decode cX2_doubleSlot 6 = .ok (.invokevirtual 119, 3) := by decide +kernel
theorem dX2_doubleSlot_9 : decode cX2_doubleSlot 9 = .ok (.istore 4, 2) := by decide +kernel
theorem dX2_doubleSlot_11 : decode cX2_doubleSlot 11 = .ok (.iload 4, 2) := by decide +kernel
theorem dX2_doubleSlot_13 : decode cX2_doubleSlot 13 = .ok (.iconst (-1), 1) := by decide +kernel
theorem dX2_doubleSlot_14 : decode cX2_doubleSlot 14 = .ok (.if_icmp .ne 4, 3) := by decide +kernel
theorem dX2_doubleSlot_17 : decode cX2_doubleSlot 17 = .ok (.return_, 1) := by decide +kernel
theorem dX2_doubleSlot_18 : decode cX2_doubleSlot 18 = .ok (.aload_n 0, 1) := by decide +kernel
theorem dX2_doubleSlot_19 : decode cX2_doubleSlot 19 = .ok (.iload_n 1, 1) := by decide +kernel
theorem dX2_doubleSlot_20 : decode cX2_doubleSlot 20 = .ok (.iload_n 2, 1) := by decide +kernel
theorem dX2_doubleSlot_21 : decode cX2_doubleSlot 21 = .ok (.invokevirtual 237, 3) := by decide +kernel
theorem dX2_doubleSlot_24 : decode cX2_doubleSlot 24 = .ok (.iload 4, 2) := by decide +kernel
theorem dX2_doubleSlot_26 : decode cX2_doubleSlot 26 = .ok (.iload_n 3, 1) := by decide +kernel
theorem dX2_doubleSlot_27 : decode cX2_doubleSlot 27 = .ok (.invokestatic 179, 3) := by decide +kernel
theorem dX2_doubleSlot_30 : decode cX2_doubleSlot 30 = .ok (.istore 5, 2) := by decide +kernel
theorem dX2_doubleSlot_32 : decode cX2_doubleSlot 32 = .ok (.iload 4, 2) := by decide +kernel
theorem dX2_doubleSlot_34 : decode cX2_doubleSlot 34 = .ok (.invokestatic 88, 3) := by decide +kernel
theorem dX2_doubleSlot_37 : decode cX2_doubleSlot 37 = .ok (.iload_n 1, 1) := by decide +kernel
theorem dX2_doubleSlot_38 : decode cX2_doubleSlot 38 = .ok (.if_icmp .ne 7, 3) := by decide +kernel
theorem dX2_doubleSlot_41 : decode cX2_doubleSlot 41 = .ok (.iconst 1, 1) := by decide +kernel
theorem dX2_doubleSlot_42 : decode cX2_doubleSlot 42 = .ok (.goto 4, 3) := by decide +kernel
theorem dX2_doubleSlot_45 : decode cX2_doubleSlot 45 = .ok (.iconst 0, 1) := by decide +kernel
theorem dX2_doubleSlot_46 : decode cX2_doubleSlot 46 = .ok (.istore 6, 2) := by decide +kernel
theorem dX2_doubleSlot_48 : decode cX2_doubleSlot 48 = .ok (.aload_n 0, 1) := by decide +kernel
theorem dX2_doubleSlot_49 : decode cX2_doubleSlot 49 = .ok (.iload 6, 2) := by decide +kernel
theorem dX2_doubleSlot_51 : decode cX2_doubleSlot 51 = .ok (.ifCond .eq 11, 3) := by decide +kernel
theorem dX2_doubleSlot_54 : decode cX2_doubleSlot 54 = .ok (.iload 5, 2) := by decide +kernel
theorem dX2_doubleSlot_56 : decode cX2_doubleSlot 56 = .ok (.invokestatic 88, 3) := by decide +kernel
theorem dX2_doubleSlot_59 : decode cX2_doubleSlot 59 = .ok (.goto 9, 3) := by decide +kernel
theorem dX2_doubleSlot_62 : decode cX2_doubleSlot 62 = .ok (.aload_n 0, 1) := by decide +kernel
theorem dX2_doubleSlot_63 : decode cX2_doubleSlot 63 = .ok (.iload 5, 2) := by decide +kernel
theorem dX2_doubleSlot_65 : decode cX2_doubleSlot 65 = .ok (.invokevirtual 204, 3) := by decide +kernel
theorem dX2_doubleSlot_68 : decode cX2_doubleSlot 68 = .ok (.iload_n 2, 1) := by decide +kernel
theorem dX2_doubleSlot_69 : decode cX2_doubleSlot 69 = .ok (.invokestatic 116, 3) := by decide +kernel
theorem dX2_doubleSlot_72 : decode cX2_doubleSlot 72 = .ok (.iload 5, 2) := by decide +kernel
theorem dX2_doubleSlot_74 : decode cX2_doubleSlot 74 = .ok (.invokevirtual 131, 3) := by decide +kernel
theorem dX2_doubleSlot_77 : decode cX2_doubleSlot 77 = .ok (.return_, 1) := by decide +kernel
theorem dX2_canDouble_0 : decode cX2_canDouble 0 = .ok (.aload_n 0, 1) := by decide +kernel
theorem dX2_canDouble_1 : decode cX2_canDouble 1 = .ok (.getfield 9, 3) := by decide +kernel
theorem dX2_canDouble_4 : decode cX2_canDouble 4 = .ok (.bipush 6, 2) := by decide +kernel
theorem dX2_canDouble_6 : decode cX2_canDouble 6 = .ok (.if_icmp .ge 14, 3) := by decide +kernel
theorem dX2_canDouble_9 : decode cX2_canDouble 9 = .ok (.aload_n 0, 1) := by decide +kernel
theorem dX2_canDouble_10 : decode cX2_canDouble 10 = .ok (.invokevirtual 109, 3) := by decide +kernel
theorem dX2_canDouble_13 : decode cX2_canDouble 13 = .ok (.ifCond .eq 7, 3) := by decide +kernel
theorem dX2_canDouble_16 : decode cX2_canDouble 16 = .ok (.iconst 1, 1) := by decide +kernel
theorem dX2_canDouble_17 : decode cX2_canDouble 17 = .ok (.goto 4, 3) := by decide +kernel
theorem dX2_canDouble_20 : decode cX2_canDouble 20 = .ok (.iconst 0, 1) := by decide +kernel
theorem dX2_canDouble_21 : decode cX2_canDouble 21 = .ok (.ireturn, 1) := by decide +kernel
theorem dX2_smallestLength_0 : decode cX2_smallestLength 0 = .ok (.iconst (-1), 1) := by decide +kernel
theorem dX2_smallestLength_1 : decode cX2_smallestLength 1 = .ok (.istore_n 1, 1) := by decide +kernel
theorem dX2_smallestLength_2 : decode cX2_smallestLength 2 = .ok (.iconst 0, 1) := by decide +kernel
theorem dX2_smallestLength_3 : decode cX2_smallestLength 3 = .ok (.istore_n 2, 1) := by decide +kernel
theorem dX2_smallestLength_4 : decode cX2_smallestLength 4 = .ok (.iload_n 2, 1) := by decide +kernel
theorem dX2_smallestLength_5 : decode cX2_smallestLength 5 = .ok (.aload_n 0, 1) := by decide +kernel
theorem dX2_smallestLength_6 : decode cX2_smallestLength 6 = .ok (.getfield 27, 3) := by decide +kernel
theorem dX2_smallestLength_9 : decode cX2_smallestLength 9 = .ok (.arraylength, 1) := by decide +kernel
theorem dX2_smallestLength_10 : decode cX2_smallestLength 10 = .ok (.if_icmp .ge 20, 3) := by decide +kernel
theorem dX2_smallestLength_13 : decode cX2_smallestLength 13 = .ok (.iload_n 1, 1) := by decide +kernel
theorem dX2_smallestLength_14 : decode cX2_smallestLength 14 = .ok (.aload_n 0, 1) := by decide +kernel
theorem dX2_smallestLength_15 : decode cX2_smallestLength 15 = .ok (.getfield 27, 3) := by decide +kernel
theorem dX2_smallestLength_18 : decode cX2_smallestLength 18 = .ok (.iload_n 2, 1) := by decide +kernel
theorem dX2_smallestLength_19 : decode cX2_smallestLength 19 = .ok (.iaload, 1) := by decide +kernel
theorem dX2_smallestLength_20 : decode cX2_smallestLength 20 = .ok (.invokestatic 240, 3) := by decide +kernel
theorem dX2_smallestLength_23 : decode cX2_smallestLength 23 = .ok (.istore_n 1, 1) := by decide +kernel
theorem dX2_smallestLength_24 : decode cX2_smallestLength 24 = .ok (.iinc 2 1, 3) := by decide +kernel
theorem dX2_smallestLength_27 : decode cX2_smallestLength 27 = .ok (.goto (-23), 3) := by decide +kernel
theorem dX2_smallestLength_30 : decode cX2_smallestLength 30 = .ok (.iconst 0, 1) := by decide +kernel
theorem dX2_smallestLength_31 : decode cX2_smallestLength 31 = .ok (.istore_n 2, 1) := by decide +kernel
theorem dX2_smallestLength_32 : decode cX2_smallestLength 32 = .ok (.iload_n 2, 1) := by decide +kernel
theorem dX2_smallestLength_33 : decode cX2_smallestLength 33 = .ok (.aload_n 0, 1) := by decide +kernel
theorem dX2_smallestLength_34 : decode cX2_smallestLength 34 = .ok (.getfield 55, 3) := by decide +kernel
theorem dX2_smallestLength_37 : decode cX2_smallestLength 37 = .ok (.if_icmp .ge 19, 3) := by decide +kernel
theorem dX2_smallestLength_40 : decode cX2_smallestLength 40 = .ok (.iload_n 1, 1) := by decide +kernel
theorem dX2_smallestLength_41 : decode cX2_smallestLength 41 = .ok (.aload_n 0, 1) := by decide +kernel
theorem dX2_smallestLength_42 : decode cX2_smallestLength 42 = .ok (.iload_n 2, 1) := by decide +kernel
theorem dX2_smallestLength_43 : decode cX2_smallestLength 43 = .ok (.invokevirtual 125, 3) := by decide +kernel
theorem dX2_smallestLength_46 : decode cX2_smallestLength 46 = .ok (.invokestatic 240, 3) := by decide +kernel
theorem dX2_smallestLength_49 : decode cX2_smallestLength 49 = .ok (.istore_n 1, 1) := by decide +kernel
theorem dX2_smallestLength_50 : decode cX2_smallestLength 50 = .ok (.iinc 2 1, 3) := by decide +kernel
theorem dX2_smallestLength_53 : decode cX2_smallestLength 53 = .ok (.goto (-21), 3) := by decide +kernel
theorem dX2_smallestLength_56 : decode cX2_smallestLength 56 = .ok (.iload_n 1, 1) := by decide +kernel
theorem dX2_smallestLength_57 : decode cX2_smallestLength 57 = .ok (.ireturn, 1) := by decide +kernel
theorem dX2_smallerLength_0 : decode cX2_smallerLength 0 = .ok (.iload_n 1, 1) := by decide +kernel
theorem dX2_smallerLength_1 : decode cX2_smallerLength 1 = .ok (.iconst (-1), 1) := by decide +kernel
theorem dX2_smallerLength_2 : decode cX2_smallerLength 2 = .ok (.if_icmp .ne 5, 3) := by decide +kernel
theorem dX2_smallerLength_5 : decode cX2_smallerLength 5 = .ok (.iload_n 0, 1) := by decide +kernel
theorem dX2_smallerLength_6 : decode cX2_smallerLength 6 = .ok (.ireturn, 1) := by decide +kernel
theorem dX2_smallerLength_7 : decode cX2_smallerLength 7 = .ok (.iload_n 1, 1) := by decide +kernel
theorem dX2_smallerLength_8 : decode cX2_smallerLength 8 = .ok (.invokestatic 243, 3) := by decide +kernel
theorem dX2_smallerLength_11 : decode cX2_smallerLength 11 = .ok (.istore_n 2, 1) := by decide +kernel
theorem dX2_smallerLength_12 : decode cX2_smallerLength 12 = .ok (.iload_n 0, 1) := by decide +kernel
theorem dX2_smallerLength_13 : decode cX2_smallerLength 13 = .ok (.iconst (-1), 1) := by decide +kernel
theorem dX2_smallerLength_14 : decode cX2_smallerLength 14 = .ok (.if_icmp .eq 8, 3) := by decide +kernel
theorem dX2_smallerLength_17 : decode cX2_smallerLength 17 = .ok (.iload_n 2, 1) := by decide +kernel
theorem dX2_smallerLength_18 : decode cX2_smallerLength 18 = .ok (.iload_n 0, 1) := by decide +kernel
theorem dX2_smallerLength_19 : decode cX2_smallerLength 19 = .ok (.if_icmp .ge 7, 3) := by decide +kernel
theorem dX2_smallerLength_22 : decode cX2_smallerLength 22 = .ok (.iload_n 2, 1) := by decide +kernel
theorem dX2_smallerLength_23 : decode cX2_smallerLength 23 = .ok (.goto 4, 3) := by decide +kernel
theorem dX2_smallerLength_26 : decode cX2_smallerLength 26 = .ok (.iload_n 0, 1) := by decide +kernel
theorem dX2_smallerLength_27 : decode cX2_smallerLength 27 = .ok (.ireturn, 1) := by decide +kernel
theorem dX2_entriesInSlots_0 : decode cX2_entriesInSlots 0 = .ok (.iconst 0, 1) := by decide +kernel
theorem dX2_entriesInSlots_1 : decode cX2_entriesInSlots 1 = .ok (.istore_n 1, 1) := by decide +kernel
theorem dX2_entriesInSlots_2 : decode cX2_entriesInSlots 2 = .ok (.iconst 0, 1) := by decide +kernel
theorem dX2_entriesInSlots_3 : decode cX2_entriesInSlots 3 = .ok (.istore_n 2, 1) := by decide +kernel
theorem dX2_entriesInSlots_4 : decode cX2_entriesInSlots 4 = .ok (.iload_n 2, 1) := by decide +kernel
theorem dX2_entriesInSlots_5 : decode cX2_entriesInSlots 5 = .ok (.aload_n 0, 1) := by decide +kernel
theorem dX2_entriesInSlots_6 : decode cX2_entriesInSlots 6 = .ok (.invokevirtual 103, 3) := by decide +kernel
theorem dX2_entriesInSlots_9 : decode cX2_entriesInSlots 9 = .ok (.if_icmp .ge 17, 3) := by decide +kernel
theorem dX2_entriesInSlots_12 : decode cX2_entriesInSlots 12 = .ok (.iload_n 1, 1) := by decide +kernel
theorem dX2_entriesInSlots_13 : decode cX2_entriesInSlots 13 = .ok (.aload_n 0, 1) := by decide +kernel
theorem dX2_entriesInSlots_14 : decode cX2_entriesInSlots 14 = .ok (.iload_n 2, 1) := by decide +kernel
theorem dX2_entriesInSlots_15 : decode cX2_entriesInSlots 15 = .ok (.invokevirtual 128, 3) := by decide +kernel
theorem dX2_entriesInSlots_18 : decode cX2_entriesInSlots 18 = .ok (.iadd, 1) := by decide +kernel
theorem dX2_entriesInSlots_19 : decode cX2_entriesInSlots 19 = .ok (.istore_n 1, 1) := by decide +kernel
theorem dX2_entriesInSlots_20 : decode cX2_entriesInSlots 20 = .ok (.iinc 2 1, 3) := by decide +kernel
theorem dX2_entriesInSlots_23 : decode cX2_entriesInSlots 23 = .ok (.goto (-19), 3) := by decide +kernel
theorem dX2_entriesInSlots_26 : decode cX2_entriesInSlots 26 = .ok (.iload_n 1, 1) := by decide +kernel
theorem dX2_entriesInSlots_27 : decode cX2_entriesInSlots 27 = .ok (.ireturn, 1) := by decide +kernel
theorem dX2_entriesIn_0 : decode cX2_entriesIn 0 = .ok (.iconst 0, 1) := by decide +kernel
theorem dX2_entriesIn_1 : decode cX2_entriesIn 1 = .ok (.istore_n 2, 1) := by decide +kernel
theorem dX2_entriesIn_2 : decode cX2_entriesIn 2 = .ok (.iconst 0, 1) := by decide +kernel
theorem dX2_entriesIn_3 : decode cX2_entriesIn 3 = .ok (.istore_n 3, 1) := by decide +kernel
theorem dX2_entriesIn_4 : decode cX2_entriesIn 4 = .ok (.iload_n 3, 1) := by decide +kernel
theorem dX2_entriesIn_5 : decode cX2_entriesIn 5 = .ok (.aload_n 0, 1) := by decide +kernel
theorem dX2_entriesIn_6 : decode cX2_entriesIn 6 = .ok (.getfield 15, 3) := by decide +kernel
theorem dX2_entriesIn_9 : decode cX2_entriesIn 9 = .ok (.if_icmp .ge 25, 3) := by decide +kernel
theorem dX2_entriesIn_12 : decode cX2_entriesIn 12 = .ok (.aload_n 0, 1) := by decide +kernel
theorem dX2_entriesIn_13 : decode cX2_entriesIn 13 = .ok (.iload_n 1, 1) := by decide +kernel
theorem dX2_entriesIn_14 : decode cX2_entriesIn 14 = .ok (.iload_n 3, 1) := by decide +kernel
theorem dX2_entriesIn_15 : decode cX2_entriesIn 15 = .ok (.invokestatic 116, 3) := by decide +kernel
theorem dX2_entriesIn_18 : decode cX2_entriesIn 18 = .ok (.invokevirtual 119, 3) := by decide +kernel
theorem dX2_entriesIn_21 : decode cX2_entriesIn 21 = .ok (.iconst (-1), 1) := by decide +kernel
theorem dX2_entriesIn_22 : decode cX2_entriesIn 22 = .ok (.if_icmp .eq 6, 3) := by decide +kernel
theorem dX2_entriesIn_25 : decode cX2_entriesIn 25 = .ok (.iinc 2 1, 3) := by decide +kernel
theorem dX2_entriesIn_28 : decode cX2_entriesIn 28 = .ok (.iinc 3 1, 3) := by decide +kernel
theorem dX2_entriesIn_31 : decode cX2_entriesIn 31 = .ok (.goto (-27), 3) := by decide +kernel
theorem dX2_entriesIn_34 : decode cX2_entriesIn 34 = .ok (.iload_n 2, 1) := by decide +kernel
theorem dX2_entriesIn_35 : decode cX2_entriesIn 35 = .ok (.ireturn, 1) := by decide +kernel
theorem dX2_emptyAll_0 : decode cX2_emptyAll 0 = .ok (.iconst 0, 1) := by decide +kernel
theorem dX2_emptyAll_1 : decode cX2_emptyAll 1 = .ok (.istore_n 1, 1) := by decide +kernel
theorem dX2_emptyAll_2 : decode cX2_emptyAll 2 = .ok (.iload_n 1, 1) := by decide +kernel
theorem dX2_emptyAll_3 : decode cX2_emptyAll 3 = .ok (.aload_n 0, 1) := by decide +kernel
theorem dX2_emptyAll_4 : decode cX2_emptyAll 4 = .ok (.getfield 27, 3) := by decide +kernel
theorem dX2_emptyAll_7 : decode cX2_emptyAll 7 = .ok (.arraylength, 1) := by decide +kernel
theorem dX2_emptyAll_8 : decode cX2_emptyAll 8 = .ok (.if_icmp .ge 16, 3) := by decide +kernel
theorem dX2_emptyAll_11 : decode cX2_emptyAll 11 = .ok (.aload_n 0, 1) := by decide +kernel
theorem dX2_emptyAll_12 : decode cX2_emptyAll 12 = .ok (.getfield 27, 3) := by decide +kernel
theorem dX2_emptyAll_15 : decode cX2_emptyAll 15 = .ok (.iload_n 1, 1) := by decide +kernel
theorem dX2_emptyAll_16 : decode cX2_emptyAll 16 = .ok (.iconst (-1), 1) := by decide +kernel
theorem dX2_emptyAll_17 : decode cX2_emptyAll 17 = .ok (.iastore, 1) := by decide +kernel
theorem dX2_emptyAll_18 : decode cX2_emptyAll 18 = .ok (.iinc 1 1, 3) := by decide +kernel
theorem dX2_emptyAll_21 : decode cX2_emptyAll 21 = .ok (.goto (-19), 3) := by decide +kernel
theorem dX2_emptyAll_24 : decode cX2_emptyAll 24 = .ok (.aload_n 0, 1) := by decide +kernel
theorem dX2_emptyAll_25 : decode cX2_emptyAll 25 = .ok (.iconst 0, 1) := by decide +kernel
theorem dX2_emptyAll_26 : decode cX2_emptyAll 26 = .ok (.putfield 55, 3) := by decide +kernel
theorem dX2_emptyAll_29 : decode cX2_emptyAll 29 = .ok (.return_, 1) := by decide +kernel
theorem dX2_freePlace_0 : decode cX2_freePlace 0 = .ok (.iconst 0, 1) := by decide +kernel
theorem dX2_freePlace_1 : decode cX2_freePlace 1 = .ok (.istore_n 2, 1) := by decide +kernel
theorem dX2_freePlace_2 : decode cX2_freePlace 2 = .ok (.iload_n 2, 1) := by decide +kernel
theorem dX2_freePlace_3 : decode cX2_freePlace 3 = .ok (.aload_n 0, 1) := by decide +kernel
theorem dX2_freePlace_4 : decode cX2_freePlace 4 = .ok (.getfield 15, 3) := by decide +kernel
theorem dX2_freePlace_7 : decode cX2_freePlace 7 = .ok (.if_icmp .ge 26, 3) := by decide +kernel
theorem dX2_freePlace_10 : decode cX2_freePlace 10 = .ok (.iload_n 1, 1) := by decide +kernel
theorem dX2_freePlace_11 : decode cX2_freePlace 11 = .ok (.iload_n 2, 1) := by decide +kernel
theorem dX2_freePlace_12 : decode cX2_freePlace 12 = .ok (.invokestatic 116, 3) := by decide +kernel
theorem dX2_freePlace_15 : decode cX2_freePlace 15 = .ok (.istore_n 3, 1) := by decide +kernel
theorem dX2_freePlace_16 : decode cX2_freePlace 16 = .ok (.aload_n 0, 1) := by decide +kernel
theorem dX2_freePlace_17 : decode cX2_freePlace 17 = .ok (.iload_n 3, 1) := by decide +kernel
theorem dX2_freePlace_18 : decode cX2_freePlace 18 = .ok (.invokevirtual 119, 3) := by decide +kernel
theorem dX2_freePlace_21 : decode cX2_freePlace 21 = .ok (.iconst (-1), 1) := by decide +kernel
theorem dX2_freePlace_22 : decode cX2_freePlace 22 = .ok (.if_icmp .ne 5, 3) := by decide +kernel
theorem dX2_freePlace_25 : decode cX2_freePlace 25 = .ok (.iload_n 3, 1) := by decide +kernel
theorem dX2_freePlace_26 : decode cX2_freePlace 26 = .ok (.ireturn, 1) := by decide +kernel
theorem dX2_freePlace_27 : decode cX2_freePlace 27 = .ok (.iinc 2 1, 3) := by decide +kernel
theorem dX2_freePlace_30 : decode cX2_freePlace 30 = .ok (.goto (-28), 3) := by decide +kernel
theorem dX2_freePlace_33 : decode cX2_freePlace 33 = .ok (.iconst (-1), 1) := by decide +kernel
theorem dX2_freePlace_34 : decode cX2_freePlace 34 = .ok (.ireturn, 1) := by decide +kernel
theorem dX2_stashAt_0 : decode cX2_stashAt 0 = .ok (.iload_n 1, 1) := by decide +kernel
theorem dX2_stashAt_1 : decode cX2_stashAt 1 = .ok (.ifCond .lt 29, 3) := by decide +kernel
theorem dX2_stashAt_4 : decode cX2_stashAt 4 = .ok (.iload_n 1, 1) := by decide +kernel
theorem dX2_stashAt_5 : decode cX2_stashAt 5 = .ok (.aload_n 0, 1) := by decide +kernel
theorem dX2_stashAt_6 : decode cX2_stashAt 6 = .ok (.getfield 55, 3) := by decide +kernel
theorem dX2_stashAt_9 : decode cX2_stashAt 9 = .ok (.if_icmp .ge 21, 3) := by decide +kernel
theorem dX2_stashAt_12 : decode cX2_stashAt 12 = .ok (.iload_n 1, 1) := by decide +kernel
theorem dX2_stashAt_13 : decode cX2_stashAt 13 = .ok (.aload_n 0, 1) := by decide +kernel
theorem dX2_stashAt_14 : decode cX2_stashAt 14 = .ok (.getfield 31, 3) := by decide +kernel
theorem dX2_stashAt_17 : decode cX2_stashAt 17 = .ok (.arraylength, 1) := by decide +kernel
theorem dX2_stashAt_18 : decode cX2_stashAt 18 = .ok (.if_icmp .ge 12, 3) := by decide +kernel
theorem dX2_stashAt_21 : decode cX2_stashAt 21 = .ok (.aload_n 0, 1) := by decide +kernel
theorem dX2_stashAt_22 : decode cX2_stashAt 22 = .ok (.getfield 31, 3) := by decide +kernel
theorem dX2_stashAt_25 : decode cX2_stashAt 25 = .ok (.iload_n 1, 1) := by decide +kernel
theorem dX2_stashAt_26 : decode cX2_stashAt 26 = .ok (.iaload, 1) := by decide +kernel
theorem dX2_stashAt_27 : decode cX2_stashAt 27 = .ok (.goto 4, 3) := by decide +kernel
theorem dX2_stashAt_30 : decode cX2_stashAt 30 = .ok (.iconst (-1), 1) := by decide +kernel
theorem dX2_stashAt_31 : decode cX2_stashAt 31 = .ok (.ireturn, 1) := by decide +kernel
theorem dX2_cellAt_0 : decode cX2_cellAt 0 = .ok (.iload_n 1, 1) := by decide +kernel
theorem dX2_cellAt_1 : decode cX2_cellAt 1 = .ok (.ifCond .lt 21, 3) := by decide +kernel
theorem dX2_cellAt_4 : decode cX2_cellAt 4 = .ok (.iload_n 1, 1) := by decide +kernel
theorem dX2_cellAt_5 : decode cX2_cellAt 5 = .ok (.aload_n 0, 1) := by decide +kernel
theorem dX2_cellAt_6 : decode cX2_cellAt 6 = .ok (.getfield 27, 3) := by decide +kernel
theorem dX2_cellAt_9 : decode cX2_cellAt 9 = .ok (.arraylength, 1) := by decide +kernel
theorem dX2_cellAt_10 : decode cX2_cellAt 10 = .ok (.if_icmp .ge 12, 3) := by decide +kernel
theorem dX2_cellAt_13 : decode cX2_cellAt 13 = .ok (.aload_n 0, 1) := by decide +kernel
theorem dX2_cellAt_14 : decode cX2_cellAt 14 = .ok (.getfield 27, 3) := by decide +kernel
theorem dX2_cellAt_17 : decode cX2_cellAt 17 = .ok (.iload_n 1, 1) := by decide +kernel
theorem dX2_cellAt_18 : decode cX2_cellAt 18 = .ok (.iaload, 1) := by decide +kernel
theorem dX2_cellAt_19 : decode cX2_cellAt 19 = .ok (.goto 4, 3) := by decide +kernel
theorem dX2_cellAt_22 : decode cX2_cellAt 22 = .ok (.iconst (-1), 1) := by decide +kernel
theorem dX2_cellAt_23 : decode cX2_cellAt 23 = .ok (.ireturn, 1) := by decide +kernel
theorem dX2_setCell_0 : decode cX2_setCell 0 = .ok (.iload_n 1, 1) := by decide +kernel
theorem dX2_setCell_1 : decode cX2_setCell 1 = .ok (.ifCond .lt 19, 3) := by decide +kernel
theorem dX2_setCell_4 : decode cX2_setCell 4 = .ok (.iload_n 1, 1) := by decide +kernel
theorem dX2_setCell_5 : decode cX2_setCell 5 = .ok (.aload_n 0, 1) := by decide +kernel
theorem dX2_setCell_6 : decode cX2_setCell 6 = .ok (.getfield 27, 3) := by decide +kernel
theorem dX2_setCell_9 : decode cX2_setCell 9 = .ok (.arraylength, 1) := by decide +kernel
theorem dX2_setCell_10 : decode cX2_setCell 10 = .ok (.if_icmp .ge 10, 3) := by decide +kernel
theorem dX2_setCell_13 : decode cX2_setCell 13 = .ok (.aload_n 0, 1) := by decide +kernel
theorem dX2_setCell_14 : decode cX2_setCell 14 = .ok (.getfield 27, 3) := by decide +kernel
theorem dX2_setCell_17 : decode cX2_setCell 17 = .ok (.iload_n 1, 1) := by decide +kernel
theorem dX2_setCell_18 : decode cX2_setCell 18 = .ok (.iload_n 2, 1) := by decide +kernel
theorem dX2_setCell_19 : decode cX2_setCell 19 = .ok (.iastore, 1) := by decide +kernel
theorem dX2_setCell_20 : decode cX2_setCell 20 = .ok (.return_, 1) := by decide +kernel
theorem dX2_placeIn_0 : decode cX2_placeIn 0 = .ok (.iload_n 0, 1) := by decide +kernel
theorem dX2_placeIn_1 : decode cX2_placeIn 1 = .ok (.iconst 4, 1) := by decide +kernel
theorem dX2_placeIn_2 : decode cX2_placeIn 2 = .ok (.imul, 1) := by decide +kernel
theorem dX2_placeIn_3 : decode cX2_placeIn 3 = .ok (.iload_n 1, 1) := by decide +kernel
theorem dX2_placeIn_4 : decode cX2_placeIn 4 = .ok (.iadd, 1) := by decide +kernel
theorem dX2_placeIn_5 : decode cX2_placeIn 5 = .ok (.ireturn, 1) := by decide +kernel
theorem dX2_partOf_0 : decode cX2_partOf 0 = .ok (.iload_n 1, 1) := by decide +kernel
theorem dX2_partOf_1 : decode cX2_partOf 1 = .ok (.tableswitch 42 0 2 #[27, 32, 37], 27) := by decide +kernel
theorem dX2_partOf_28 : decode cX2_partOf 28 = .ok (.iload_n 0, 1) := by decide +kernel
theorem dX2_partOf_29 : decode cX2_partOf 29 = .ok (.invokestatic 91, 3) := by decide +kernel
theorem dX2_partOf_32 : decode cX2_partOf 32 = .ok (.ireturn, 1) := by decide +kernel
theorem dX2_partOf_33 : decode cX2_partOf 33 = .ok (.iload_n 0, 1) := by decide +kernel
theorem dX2_partOf_34 : decode cX2_partOf 34 = .ok (.invokestatic 243, 3) := by decide +kernel
theorem dX2_partOf_37 : decode cX2_partOf 37 = .ok (.ireturn, 1) := by decide +kernel
theorem dX2_partOf_38 : decode cX2_partOf 38 = .ok (.iload_n 0, 1) := by decide +kernel
theorem dX2_partOf_39 : decode cX2_partOf 39 = .ok (.invokestatic 246, 3) := by decide +kernel
theorem dX2_partOf_42 : decode cX2_partOf 42 = .ok (.ireturn, 1) := by decide +kernel
theorem dX2_partOf_43 : decode cX2_partOf 43 = .ok (.iconst (-1), 1) := by decide +kernel
theorem dX2_partOf_44 : decode cX2_partOf 44 = .ok (.ireturn, 1) := by decide +kernel
theorem dX3_init_0 : decode cX3_init 0 = .ok (.aload_n 0, 1) := by decide +kernel
theorem dX3_init_1 : decode cX3_init 1 = .ok (.invokespecial 3, 3) := by decide +kernel
theorem dX3_init_4 : decode cX3_init 4 = .ok (.aload_n 0, 1) := by decide +kernel
theorem dX3_init_5 : decode cX3_init 5 = .ok (.iconst 4, 1) := by decide +kernel
theorem dX3_init_6 : decode cX3_init 6 = .ok (.anewarray 9, 3) := by decide +kernel
theorem dX3_init_9 : decode cX3_init 9 = .ok (.putfield 11, 3) := by decide +kernel
theorem dX3_init_12 : decode cX3_init 12 = .ok (.iconst 0, 1) := by decide +kernel
theorem dX3_init_13 : decode cX3_init 13 = .ok (.istore_n 1, 1) := by decide +kernel
theorem dX3_init_14 : decode cX3_init 14 = .ok (.iload_n 1, 1) := by decide +kernel
theorem dX3_init_15 : decode cX3_init 15 = .ok (.aload_n 0, 1) := by decide +kernel
theorem dX3_init_16 : decode cX3_init 16 = .ok (.getfield 11, 3) := by decide +kernel
theorem dX3_init_19 : decode cX3_init 19 = .ok (.arraylength, 1) := by decide +kernel
theorem dX3_init_20 : decode cX3_init 20 = .ok (.if_icmp .ge 22, 3) := by decide +kernel
theorem dX3_init_23 : decode cX3_init 23 = .ok (.aload_n 0, 1) := by decide +kernel
theorem dX3_init_24 : decode cX3_init 24 = .ok (.getfield 11, 3) := by decide +kernel
theorem dX3_init_27 : decode cX3_init 27 = .ok (.iload_n 1, 1) := by decide +kernel
theorem dX3_init_28 : decode cX3_init 28 = .ok (.new 9, 3) := by decide +kernel
theorem dX3_init_31 : decode cX3_init 31 = .ok (.dup, 1) := by decide +kernel
theorem dX3_init_32 : decode cX3_init 32 = .ok (.invokespecial 17, 3) := by decide +kernel
theorem dX3_init_35 : decode cX3_init 35 = .ok (.aastore, 1) := by decide +kernel
theorem dX3_init_36 : decode cX3_init 36 = .ok (.iinc 1 1, 3) := by decide +kernel
theorem dX3_init_39 : decode cX3_init 39 = .ok (.goto (-25), 3) := by decide +kernel
theorem dX3_init_42 : decode cX3_init 42 = .ok (.return_, 1) := by decide +kernel
theorem dX3_size_0 : decode cX3_size 0 = .ok (.aload_n 0, 1) := by decide +kernel
theorem dX3_size_1 : decode cX3_size 1 = .ok (.getfield 18, 3) := by decide +kernel
theorem dX3_size_4 : decode cX3_size 4 = .ok (.ireturn, 1) := by decide +kernel
theorem dX3_push_0 : decode cX3_push 0 = .ok (.aload_n 0, 1) := by decide +kernel
theorem dX3_push_1 : decode cX3_push 1 = .ok (.getfield 18, 3) := by decide +kernel
theorem dX3_push_4 : decode cX3_push 4 = .ok (.iconst 4, 1) := by decide +kernel
theorem dX3_push_5 : decode cX3_push 5 = .ok (.if_icmp .lt 7, 3) := by decide +kernel
theorem dX3_push_8 : decode cX3_push 8 = .ok (.aload_n 0, 1) := by decide +kernel
theorem dX3_push_9 : decode cX3_push 9 = .ok (.invokevirtual 22, 3) := by decide +kernel
theorem dX3_push_12 : decode cX3_push 12 = .ok (.aload_n 0, 1) := by decide +kernel
theorem dX3_push_13 : decode cX3_push 13 = .ok (.aload_n 0, 1) := by decide +kernel
theorem dX3_push_14 : decode cX3_push 14 = .ok (.getfield 18, 3) := by decide +kernel
theorem dX3_push_17 : decode cX3_push 17 = .ok (.invokevirtual 25, 3) := by decide +kernel
theorem dX3_push_20 : decode cX3_push 20 = .ok (.astore_n 2, 1) := by decide +kernel
theorem dX3_push_21 : decode cX3_push 21 = .ok (.aload_n 2, 1) := by decide +kernel
theorem dX3_push_22 : decode cX3_push 22 = .ok (.ifnull 18, 3) := by decide +kernel
theorem dX3_push_25 : decode cX3_push 25 = .ok (.aload_n 2, 1) := by decide +kernel
theorem dX3_push_26 : decode cX3_push 26 = .ok (.aload_n 1, 1) := by decide +kernel
theorem dX3_push_27 : decode cX3_push 27 = .ok (.invokevirtual 29, 3) := by decide +kernel
theorem dX3_push_30 : decode cX3_push 30 = .ok (.aload_n 0, 1) := by decide +kernel
theorem dX3_push_31 : decode cX3_push 31 = .ok (.dup, 1) := by decide +kernel
theorem dX3_push_32 : decode cX3_push 32 = .ok (.getfield 18, 3) := by decide +kernel
theorem dX3_push_35 : decode cX3_push 35 = .ok (.iconst 1, 1) := by decide +kernel
theorem dX3_push_36 : decode cX3_push 36 = .ok (.iadd, 1) := by decide +kernel
theorem dX3_push_37 : decode cX3_push 37 = .ok (.putfield 18, 3) := by decide +kernel
theorem dX3_push_40 : decode cX3_push 40 = .ok (.return_, 1) := by decide +kernel
theorem dX3_pop_0 : decode cX3_pop 0 = .ok (.aload_n 0, 1) := by decide +kernel
theorem dX3_pop_1 : decode cX3_pop 1 = .ok (.aload_n 0, 1) := by decide +kernel
theorem dX3_pop_2 : decode cX3_pop 2 = .ok (.getfield 18, 3) := by decide +kernel
theorem dX3_pop_5 : decode cX3_pop 5 = .ok (.iconst 1, 1) := by decide +kernel
theorem dX3_pop_6 : decode cX3_pop 6 = .ok (.isub, 1) := by decide +kernel
theorem dX3_pop_7 : decode cX3_pop 7 = .ok (.invokevirtual 25, 3) := by decide +kernel
theorem dX3_pop_10 : decode cX3_pop 10 = .ok (.astore_n 2, 1) := by decide +kernel
theorem dX3_pop_11 : decode cX3_pop 11 = .ok (.aload_n 2, 1) := by decide +kernel
theorem dX3_pop_12 : decode cX3_pop 12 = .ok (.ifnull 18, 3) := by decide +kernel
theorem dX3_pop_15 : decode cX3_pop 15 = .ok (.aload_n 1, 1) := by decide +kernel
theorem dX3_pop_16 : decode cX3_pop 16 = .ok (.aload_n 2, 1) := by decide +kernel
theorem dX3_pop_17 : decode cX3_pop 17 = .ok (.invokevirtual 29, 3) := by decide +kernel
theorem dX3_pop_20 : decode cX3_pop 20 = .ok (.aload_n 0, 1) := by decide +kernel
theorem dX3_pop_21 : decode cX3_pop 21 = .ok (.dup, 1) := by decide +kernel
theorem dX3_pop_22 : decode cX3_pop 22 = .ok (.getfield 18, 3) := by decide +kernel
theorem dX3_pop_25 : decode cX3_pop 25 = .ok (.iconst 1, 1) := by decide +kernel
theorem dX3_pop_26 : decode cX3_pop 26 = .ok (.isub, 1) := by decide +kernel
theorem dX3_pop_27 : decode cX3_pop 27 = .ok (.putfield 18, 3) := by decide +kernel
theorem dX3_pop_30 : decode cX3_pop 30 = .ok (.aload_n 0, 1) := by decide +kernel
theorem dX3_pop_31 : decode cX3_pop 31 = .ok (.getfield 18, 3) := by decide +kernel
theorem dX3_pop_34 : decode cX3_pop 34 = .ok (.ireturn, 1) := by decide +kernel
theorem dX3_dropOldest_0 : decode cX3_dropOldest 0 = .ok (.aload_n 0, 1) := by decide +kernel
theorem dX3_dropOldest_1 : decode cX3_dropOldest 1 = .ok (.iconst 0, 1) := by decide +kernel
theorem dX3_dropOldest_2 : decode cX3_dropOldest 2 = .ok (.invokevirtual 25, 3) := by decide +kernel
theorem dX3_dropOldest_5 : decode cX3_dropOldest 5 = .ok (.astore_n 1, 1) := by decide +kernel
theorem dX3_dropOldest_6 : decode cX3_dropOldest 6 = .ok (.iconst 0, 1) := by decide +kernel
theorem dX3_dropOldest_7 : decode cX3_dropOldest 7 = .ok (.istore_n 2, 1) := by decide +kernel
theorem dX3_dropOldest_8 : decode cX3_dropOldest 8 = .ok (.iload_n 2, 1) := by decide +kernel
theorem dX3_dropOldest_9 : decode cX3_dropOldest 9 = .ok (.iconst 1, 1) := by decide +kernel
theorem dX3_dropOldest_10 : decode cX3_dropOldest 10 = .ok (.iadd, 1) := by decide +kernel
theorem dX3_dropOldest_11 : decode cX3_dropOldest 11 = .ok (.aload_n 0, 1) := by decide +kernel
theorem dX3_dropOldest_12 : decode cX3_dropOldest 12 = .ok (.getfield 11, 3) := by decide +kernel
theorem dX3_dropOldest_15 : decode cX3_dropOldest 15 = .ok (.arraylength, 1) := by decide +kernel
theorem dX3_dropOldest_16 : decode cX3_dropOldest 16 = .ok (.if_icmp .ge 23, 3) := by decide +kernel
theorem dX3_dropOldest_19 : decode cX3_dropOldest 19 = .ok (.aload_n 0, 1) := by decide +kernel
theorem dX3_dropOldest_20 : decode cX3_dropOldest 20 = .ok (.getfield 11, 3) := by decide +kernel
theorem dX3_dropOldest_23 : decode cX3_dropOldest 23 = .ok (.iload_n 2, 1) := by decide +kernel
theorem dX3_dropOldest_24 : decode cX3_dropOldest 24 = .ok (.aload_n 0, 1) := by decide +kernel
theorem dX3_dropOldest_25 : decode cX3_dropOldest 25 = .ok (.getfield 11, 3) := by decide +kernel
theorem dX3_dropOldest_28 : decode cX3_dropOldest 28 = .ok (.iload_n 2, 1) := by decide +kernel
theorem dX3_dropOldest_29 : decode cX3_dropOldest 29 = .ok (.iconst 1, 1) := by decide +kernel
theorem dX3_dropOldest_30 : decode cX3_dropOldest 30 = .ok (.iadd, 1) := by decide +kernel
theorem dX3_dropOldest_31 : decode cX3_dropOldest 31 = .ok (.aaload, 1) := by decide +kernel
theorem dX3_dropOldest_32 : decode cX3_dropOldest 32 = .ok (.aastore, 1) := by decide +kernel
theorem dX3_dropOldest_33 : decode cX3_dropOldest 33 = .ok (.iinc 2 1, 3) := by decide +kernel
theorem dX3_dropOldest_36 : decode cX3_dropOldest 36 = .ok (.goto (-28), 3) := by decide +kernel
theorem dX3_dropOldest_39 : decode cX3_dropOldest 39 = .ok (.aload_n 0, 1) := by decide +kernel
theorem dX3_dropOldest_40 : decode cX3_dropOldest 40 = .ok (.getfield 11, 3) := by decide +kernel
theorem dX3_dropOldest_43 : decode cX3_dropOldest 43 = .ok (.arraylength, 1) := by decide +kernel
theorem dX3_dropOldest_44 : decode cX3_dropOldest 44 = .ok (.ifCond .le 16, 3) := by decide +kernel
theorem dX3_dropOldest_47 : decode cX3_dropOldest 47 = .ok (.aload_n 0, 1) := by decide +kernel
theorem dX3_dropOldest_48 : decode cX3_dropOldest 48 = .ok (.getfield 11, 3) := by decide +kernel
theorem dX3_dropOldest_51 : decode cX3_dropOldest 51 = .ok (.aload_n 0, 1) := by decide +kernel
theorem dX3_dropOldest_52 : decode cX3_dropOldest 52 = .ok (.getfield 11, 3) := by decide +kernel
theorem dX3_dropOldest_55 : decode cX3_dropOldest 55 = .ok (.arraylength, 1) := by decide +kernel
theorem dX3_dropOldest_56 : decode cX3_dropOldest 56 = .ok (.iconst 1, 1) := by decide +kernel
theorem dX3_dropOldest_57 : decode cX3_dropOldest 57 = .ok (.isub, 1) := by decide +kernel
theorem dX3_dropOldest_58 : decode cX3_dropOldest 58 = .ok (.aload_n 1, 1) := by decide +kernel
theorem dX3_dropOldest_59 : decode cX3_dropOldest 59 = .ok (.aastore, 1) := by decide +kernel
theorem dX3_dropOldest_60 : decode cX3_dropOldest 60 = .ok (.aload_n 0, 1) := by decide +kernel
theorem dX3_dropOldest_61 : decode cX3_dropOldest 61 = .ok (.dup, 1) := by decide +kernel
theorem dX3_dropOldest_62 : decode cX3_dropOldest 62 = .ok (.getfield 18, 3) := by decide +kernel
theorem dX3_dropOldest_65 : decode cX3_dropOldest 65 = .ok (.iconst 1, 1) := by decide +kernel
theorem dX3_dropOldest_66 : decode cX3_dropOldest 66 = .ok (.isub, 1) := by decide +kernel
theorem dX3_dropOldest_67 : decode cX3_dropOldest 67 = .ok (.putfield 18, 3) := by decide +kernel
theorem dX3_dropOldest_70 : decode cX3_dropOldest 70 = .ok (.return_, 1) := by decide +kernel
theorem dX3_stateAt_0 : decode cX3_stateAt 0 = .ok (.iload_n 1, 1) := by decide +kernel
theorem dX3_stateAt_1 : decode cX3_stateAt 1 = .ok (.ifCond .lt 21, 3) := by decide +kernel
theorem dX3_stateAt_4 : decode cX3_stateAt 4 = .ok (.iload_n 1, 1) := by decide +kernel
theorem dX3_stateAt_5 : decode cX3_stateAt 5 = .ok (.aload_n 0, 1) := by decide +kernel
theorem dX3_stateAt_6 : decode cX3_stateAt 6 = .ok (.getfield 11, 3) := by decide +kernel
theorem dX3_stateAt_9 : decode cX3_stateAt 9 = .ok (.arraylength, 1) := by decide +kernel
theorem dX3_stateAt_10 : decode cX3_stateAt 10 = .ok (.if_icmp .ge 12, 3) := by decide +kernel
theorem dX3_stateAt_13 : decode cX3_stateAt 13 = .ok (.aload_n 0, 1) := by decide +kernel
theorem dX3_stateAt_14 : decode cX3_stateAt 14 = .ok (.getfield 11, 3) := by decide +kernel
theorem dX3_stateAt_17 : decode cX3_stateAt 17 = .ok (.iload_n 1, 1) := by decide +kernel
theorem dX3_stateAt_18 : decode cX3_stateAt 18 = .ok (.aaload, 1) := by decide +kernel
theorem dX3_stateAt_19 : decode cX3_stateAt 19 = .ok (.goto 4, 3) := by decide +kernel
theorem dX3_stateAt_22 : decode cX3_stateAt 22 = .ok (.aconst_null, 1) := by decide +kernel
theorem dX3_stateAt_23 : decode cX3_stateAt 23 = .ok (.areturn, 1) := by decide +kernel
theorem dX4_init_0 : decode cX4_init 0 = .ok (.aload_n 0, 1) := by decide +kernel
theorem dX4_init_1 : decode cX4_init 1 = .ok (.invokespecial 3, 3) := by decide +kernel
theorem dX4_init_4 : decode cX4_init 4 = .ok (.aload_n 0, 1) := by decide +kernel
theorem dX4_init_5 : decode cX4_init 5 = .ok (.bipush 120, 2) := by decide +kernel
theorem dX4_init_7 : decode cX4_init 7 = .ok (.newarray .int, 2) := by decide +kernel
theorem dX4_init_9 : decode cX4_init 9 = .ok (.putfield 9, 3) := by decide +kernel
theorem dX4_init_12 : decode cX4_init 12 = .ok (.return_, 1) := by decide +kernel
theorem dX4_copyFrom_0 : decode cX4_copyFrom 0 = .ok (.iconst 0, 1) := by decide +kernel
theorem dX4_copyFrom_1 : decode cX4_copyFrom 1 = .ok (.istore_n 2, 1) := by decide +kernel
theorem dX4_copyFrom_2 : decode cX4_copyFrom 2 = .ok (.iload_n 2, 1) := by decide +kernel
theorem dX4_copyFrom_3 : decode cX4_copyFrom 3 = .ok (.aload_n 0, 1) := by decide +kernel
theorem dX4_copyFrom_4 : decode cX4_copyFrom 4 = .ok (.getfield 9, 3) := by decide +kernel
theorem dX4_copyFrom_7 : decode cX4_copyFrom 7 = .ok (.arraylength, 1) := by decide +kernel
theorem dX4_copyFrom_8 : decode cX4_copyFrom 8 = .ok (.if_icmp .ge 30, 3) := by decide +kernel
theorem dX4_copyFrom_11 : decode cX4_copyFrom 11 = .ok (.iload_n 2, 1) := by decide +kernel
theorem dX4_copyFrom_12 : decode cX4_copyFrom 12 = .ok (.aload_n 1, 1) := by decide +kernel
theorem dX4_copyFrom_13 : decode cX4_copyFrom 13 = .ok (.getfield 9, 3) := by decide +kernel
theorem dX4_copyFrom_16 : decode cX4_copyFrom 16 = .ok (.arraylength, 1) := by decide +kernel
theorem dX4_copyFrom_17 : decode cX4_copyFrom 17 = .ok (.if_icmp .ge 21, 3) := by decide +kernel
theorem dX4_copyFrom_20 : decode cX4_copyFrom 20 = .ok (.aload_n 0, 1) := by decide +kernel
theorem dX4_copyFrom_21 : decode cX4_copyFrom 21 = .ok (.getfield 9, 3) := by decide +kernel
theorem dX4_copyFrom_24 : decode cX4_copyFrom 24 = .ok (.iload_n 2, 1) := by decide +kernel
theorem dX4_copyFrom_25 : decode cX4_copyFrom 25 = .ok (.aload_n 1, 1) := by decide +kernel
theorem dX4_copyFrom_26 : decode cX4_copyFrom 26 = .ok (.getfield 9, 3) := by decide +kernel
theorem dX4_copyFrom_29 : decode cX4_copyFrom 29 = .ok (.iload_n 2, 1) := by decide +kernel
theorem dX4_copyFrom_30 : decode cX4_copyFrom 30 = .ok (.iaload, 1) := by decide +kernel
theorem dX4_copyFrom_31 : decode cX4_copyFrom 31 = .ok (.iastore, 1) := by decide +kernel
theorem dX4_copyFrom_32 : decode cX4_copyFrom 32 = .ok (.iinc 2 1, 3) := by decide +kernel
theorem dX4_copyFrom_35 : decode cX4_copyFrom 35 = .ok (.goto (-33), 3) := by decide +kernel
theorem dX4_copyFrom_38 : decode cX4_copyFrom 38 = .ok (.aload_n 0, 1) := by decide +kernel
theorem dX4_copyFrom_39 : decode cX4_copyFrom 39 = .ok (.aload_n 1, 1) := by decide +kernel
theorem dX4_copyFrom_40 : decode cX4_copyFrom 40 = .ok (.getfield 15, 3) := by decide +kernel
theorem dX4_copyFrom_43 : decode cX4_copyFrom 43 = .ok (.putfield 15, 3) := by decide +kernel
theorem dX4_copyFrom_46 : decode cX4_copyFrom 46 = .ok (.return_, 1) := by decide +kernel
theorem dX4_size_0 : decode cX4_size 0 = .ok (.aload_n 0, 1) := by decide +kernel
theorem dX4_size_1 : decode cX4_size 1 = .ok (.getfield 15, 3) := by decide +kernel
theorem dX4_size_4 : decode cX4_size 4 = .ok (.ireturn, 1) := by decide +kernel
theorem dX4_empty_0 : decode cX4_empty 0 = .ok (.aload_n 0, 1) := by decide +kernel
theorem dX4_empty_1 : decode cX4_empty 1 = .ok (.iconst 0, 1) := by decide +kernel
theorem dX4_empty_2 : decode cX4_empty 2 = .ok (.putfield 15, 3) := by decide +kernel
theorem dX4_empty_5 : decode cX4_empty 5 = .ok (.return_, 1) := by decide +kernel
theorem dX4_isFull_0 : decode cX4_isFull 0 = .ok (.aload_n 0, 1) := by decide +kernel
theorem dX4_isFull_1 : decode cX4_isFull 1 = .ok (.getfield 15, 3) := by decide +kernel
theorem dX4_isFull_4 : decode cX4_isFull 4 = .ok (.aload_n 0, 1) := by decide +kernel
theorem dX4_isFull_5 : decode cX4_isFull 5 = .ok (.getfield 9, 3) := by decide +kernel
theorem dX4_isFull_8 : decode cX4_isFull 8 = .ok (.arraylength, 1) := by decide +kernel
theorem dX4_isFull_9 : decode cX4_isFull 9 = .ok (.if_icmp .lt 7, 3) := by decide +kernel
theorem dX4_isFull_12 : decode cX4_isFull 12 = .ok (.iconst 1, 1) := by decide +kernel
theorem dX4_isFull_13 : decode cX4_isFull 13 = .ok (.goto 4, 3) := by decide +kernel
theorem dX4_isFull_16 : decode cX4_isFull 16 = .ok (.iconst 0, 1) := by decide +kernel
theorem dX4_isFull_17 : decode cX4_isFull 17 = .ok (.ireturn, 1) := by decide +kernel
theorem dX4_keyAt_0 : decode cX4_keyAt 0 = .ok (.iload_n 1, 1) := by decide +kernel
theorem dX4_keyAt_1 : decode cX4_keyAt 1 = .ok (.ifCond .lt 29, 3) := by decide +kernel
theorem dX4_keyAt_4 : decode cX4_keyAt 4 = .ok (.iload_n 1, 1) := by decide +kernel
theorem dX4_keyAt_5 : decode cX4_keyAt 5 = .ok (.aload_n 0, 1) := by decide +kernel
theorem dX4_keyAt_6 : decode cX4_keyAt 6 = .ok (.getfield 15, 3) := by decide +kernel
theorem dX4_keyAt_9 : decode cX4_keyAt 9 = .ok (.if_icmp .ge 21, 3) := by decide +kernel
theorem dX4_keyAt_12 : decode cX4_keyAt 12 = .ok (.iload_n 1, 1) := by decide +kernel
theorem dX4_keyAt_13 : decode cX4_keyAt 13 = .ok (.aload_n 0, 1) := by decide +kernel
theorem dX4_keyAt_14 : decode cX4_keyAt 14 = .ok (.getfield 9, 3) := by decide +kernel
theorem dX4_keyAt_17 : decode cX4_keyAt 17 = .ok (.arraylength, 1) := by decide +kernel
theorem dX4_keyAt_18 : decode cX4_keyAt 18 = .ok (.if_icmp .ge 12, 3) := by decide +kernel
theorem dX4_keyAt_21 : decode cX4_keyAt 21 = .ok (.aload_n 0, 1) := by decide +kernel
theorem dX4_keyAt_22 : decode cX4_keyAt 22 = .ok (.getfield 9, 3) := by decide +kernel
theorem dX4_keyAt_25 : decode cX4_keyAt 25 = .ok (.iload_n 1, 1) := by decide +kernel
theorem dX4_keyAt_26 : decode cX4_keyAt 26 = .ok (.iaload, 1) := by decide +kernel
theorem dX4_keyAt_27 : decode cX4_keyAt 27 = .ok (.goto 4, 3) := by decide +kernel
theorem dX4_keyAt_30 : decode cX4_keyAt 30 = .ok (.iconst (-1), 1) := by decide +kernel
theorem dX4_keyAt_31 : decode cX4_keyAt 31 = .ok (.ireturn, 1) := by decide +kernel
theorem dX4_has_0 : decode cX4_has 0 = .ok (.aload_n 0, 1) := by decide +kernel
theorem dX4_has_1 : decode cX4_has 1 = .ok (.iload_n 1, 1) := by decide +kernel
theorem dX4_has_2 : decode cX4_has 2 = .ok (.invokevirtual 19, 3) := by decide +kernel
theorem dX4_has_5 : decode cX4_has 5 = .ok (.iconst (-1), 1) := by decide +kernel
theorem dX4_has_6 : decode cX4_has 6 = .ok (.if_icmp .eq 7, 3) := by decide +kernel
theorem dX4_has_9 : decode cX4_has 9 = .ok (.iconst 1, 1) := by decide +kernel
theorem dX4_has_10 : decode cX4_has 10 = .ok (.goto 4, 3) := by decide +kernel
theorem dX4_has_13 : decode cX4_has 13 = .ok (.iconst 0, 1) := by decide +kernel
theorem dX4_has_14 : decode cX4_has 14 = .ok (.ireturn, 1) := by decide +kernel
theorem dX4_put_0 : decode cX4_put 0 = .ok (.aload_n 0, 1) := by decide +kernel
theorem dX4_put_1 : decode cX4_put 1 = .ok (.getfield 15, 3) := by decide +kernel
theorem dX4_put_4 : decode cX4_put 4 = .ok (.ifCond .lt 35, 3) := by decide +kernel
theorem dX4_put_7 : decode cX4_put 7 = .ok (.aload_n 0, 1) := by decide +kernel
theorem dX4_put_8 : decode cX4_put 8 = .ok (.getfield 15, 3) := by decide +kernel
theorem dX4_put_11 : decode cX4_put 11 = .ok (.aload_n 0, 1) := by decide +kernel
theorem dX4_put_12 : decode cX4_put 12 = .ok (.getfield 9, 3) := by decide +kernel
theorem dX4_put_15 : decode cX4_put 15 = .ok (.arraylength, 1) := by decide +kernel
theorem dX4_put_16 : decode cX4_put 16 = .ok (.if_icmp .ge 23, 3) := by decide +kernel
theorem dX4_put_19 : decode cX4_put 19 = .ok (.aload_n 0, 1) := by decide +kernel
theorem dX4_put_20 : decode cX4_put 20 = .ok (.getfield 9, 3) := by decide +kernel
theorem dX4_put_23 : decode cX4_put 23 = .ok (.aload_n 0, 1) := by decide +kernel
theorem dX4_put_24 : decode cX4_put 24 = .ok (.getfield 15, 3) := by decide +kernel
theorem dX4_put_27 : decode cX4_put 27 = .ok (.iload_n 1, 1) := by decide +kernel
theorem dX4_put_28 : decode cX4_put 28 = .ok (.iastore, 1) := by decide +kernel
theorem dX4_put_29 : decode cX4_put 29 = .ok (.aload_n 0, 1) := by decide +kernel
theorem dX4_put_30 : decode cX4_put 30 = .ok (.dup, 1) := by decide +kernel
theorem dX4_put_31 : decode cX4_put 31 = .ok (.getfield 15, 3) := by decide +kernel
theorem dX4_put_34 : decode cX4_put 34 = .ok (.iconst 1, 1) := by decide +kernel
theorem dX4_put_35 : decode cX4_put 35 = .ok (.iadd, 1) := by decide +kernel
theorem dX4_put_36 : decode cX4_put 36 = .ok (.putfield 15, 3) := by decide +kernel
theorem dX4_put_39 : decode cX4_put 39 = .ok (.return_, 1) := by decide +kernel
theorem dX4_remove_0 : decode cX4_remove 0 = .ok (.aload_n 0, 1) := by decide +kernel
theorem dX4_remove_1 : decode cX4_remove 1 = .ok (.iload_n 1, 1) := by decide +kernel
theorem dX4_remove_2 : decode cX4_remove 2 = .ok (.invokevirtual 19, 3) := by decide +kernel
theorem dX4_remove_5 : decode cX4_remove 5 = .ok (.istore_n 2, 1) := by decide +kernel
theorem dX4_remove_6 : decode cX4_remove 6 = .ok (.iload_n 2, 1) := by decide +kernel
theorem dX4_remove_7 : decode cX4_remove 7 = .ok (.iconst (-1), 1) := by decide +kernel
theorem dX4_remove_8 : decode cX4_remove 8 = .ok (.if_icmp .ne 4, 3) := by decide +kernel
theorem dX4_remove_11 : decode cX4_remove 11 = .ok (.return_, 1) := by decide +kernel
theorem dX4_remove_12 : decode cX4_remove 12 = .ok (.iload_n 2, 1) := by decide +kernel
theorem dX4_remove_13 : decode cX4_remove 13 = .ok (.istore_n 3, 1) := by decide +kernel
theorem dX4_remove_14 : decode cX4_remove 14 = .ok (.iload_n 3, 1) := by decide +kernel
theorem dX4_remove_15 : decode cX4_remove 15 = .ok (.ifCond .lt 44, 3) := by decide +kernel
theorem dX4_remove_18 : decode cX4_remove 18 = .ok (.iload_n 3, 1) := by decide +kernel
theorem dX4_remove_19 : decode cX4_remove 19 = .ok (.iconst 1, 1) := by decide +kernel
theorem dX4_remove_20 : decode cX4_remove 20 = .ok (.iadd, 1) := by decide +kernel
theorem dX4_remove_21 : decode cX4_remove 21 = .ok (.aload_n 0, 1) := by decide +kernel
theorem dX4_remove_22 : decode cX4_remove 22 = .ok (.getfield 15, 3) := by decide +kernel
theorem dX4_remove_25 : decode cX4_remove 25 = .ok (.if_icmp .ge 34, 3) := by decide +kernel
theorem dX4_remove_28 : decode cX4_remove 28 = .ok (.iload_n 3, 1) := by decide +kernel
theorem dX4_remove_29 : decode cX4_remove 29 = .ok (.iconst 1, 1) := by decide +kernel
theorem dX4_remove_30 : decode cX4_remove 30 = .ok (.iadd, 1) := by decide +kernel
theorem dX4_remove_31 : decode cX4_remove 31 = .ok (.aload_n 0, 1) := by decide +kernel
theorem dX4_remove_32 : decode cX4_remove 32 = .ok (.getfield 9, 3) := by decide +kernel
theorem dX4_remove_35 : decode cX4_remove 35 = .ok (.arraylength, 1) := by decide +kernel
theorem dX4_remove_36 : decode cX4_remove 36 = .ok (.if_icmp .ge 23, 3) := by decide +kernel
theorem dX4_remove_39 : decode cX4_remove 39 = .ok (.aload_n 0, 1) := by decide +kernel
theorem dX4_remove_40 : decode cX4_remove 40 = .ok (.getfield 9, 3) := by decide +kernel
theorem dX4_remove_43 : decode cX4_remove 43 = .ok (.iload_n 3, 1) := by decide +kernel
theorem dX4_remove_44 : decode cX4_remove 44 = .ok (.aload_n 0, 1) := by decide +kernel
theorem dX4_remove_45 : decode cX4_remove 45 = .ok (.getfield 9, 3) := by decide +kernel
theorem dX4_remove_48 : decode cX4_remove 48 = .ok (.iload_n 3, 1) := by decide +kernel
theorem dX4_remove_49 : decode cX4_remove 49 = .ok (.iconst 1, 1) := by decide +kernel
theorem dX4_remove_50 : decode cX4_remove 50 = .ok (.iadd, 1) := by decide +kernel
theorem dX4_remove_51 : decode cX4_remove 51 = .ok (.iaload, 1) := by decide +kernel
theorem dX4_remove_52 : decode cX4_remove 52 = .ok (.iastore, 1) := by decide +kernel
theorem dX4_remove_53 : decode cX4_remove 53 = .ok (.iinc 3 1, 3) := by decide +kernel
theorem dX4_remove_56 : decode cX4_remove 56 = .ok (.goto (-42), 3) := by decide +kernel
theorem dX4_remove_59 : decode cX4_remove 59 = .ok (.aload_n 0, 1) := by decide +kernel
theorem dX4_remove_60 : decode cX4_remove 60 = .ok (.dup, 1) := by decide +kernel
theorem dX4_remove_61 : decode cX4_remove 61 = .ok (.getfield 15, 3) := by decide +kernel
theorem dX4_remove_64 : decode cX4_remove 64 = .ok (.iconst 1, 1) := by decide +kernel
theorem dX4_remove_65 : decode cX4_remove 65 = .ok (.isub, 1) := by decide +kernel
theorem dX4_remove_66 : decode cX4_remove 66 = .ok (.putfield 15, 3) := by decide +kernel
theorem dX4_remove_69 : decode cX4_remove 69 = .ok (.return_, 1) := by decide +kernel
theorem dX4_indexOf_0 : decode cX4_indexOf 0 = .ok (.iconst 0, 1) := by decide +kernel
theorem dX4_indexOf_1 : decode cX4_indexOf 1 = .ok (.istore_n 2, 1) := by decide +kernel
theorem dX4_indexOf_2 : decode cX4_indexOf 2 = .ok (.iload_n 2, 1) := by decide +kernel
theorem dX4_indexOf_3 : decode cX4_indexOf 3 = .ok (.aload_n 0, 1) := by decide +kernel
theorem dX4_indexOf_4 : decode cX4_indexOf 4 = .ok (.getfield 15, 3) := by decide +kernel
theorem dX4_indexOf_7 : decode cX4_indexOf 7 = .ok (.if_icmp .ge 30, 3) := by decide +kernel
theorem dX4_indexOf_10 : decode cX4_indexOf 10 = .ok (.iload_n 2, 1) := by decide +kernel
theorem dX4_indexOf_11 : decode cX4_indexOf 11 = .ok (.aload_n 0, 1) := by decide +kernel
theorem dX4_indexOf_12 : decode cX4_indexOf 12 = .ok (.getfield 9, 3) := by decide +kernel
theorem dX4_indexOf_15 : decode cX4_indexOf 15 = .ok (.arraylength, 1) := by decide +kernel
theorem dX4_indexOf_16 : decode cX4_indexOf 16 = .ok (.if_icmp .ge 21, 3) := by decide +kernel
theorem dX4_indexOf_19 : decode cX4_indexOf 19 = .ok (.aload_n 0, 1) := by decide +kernel
theorem dX4_indexOf_20 : decode cX4_indexOf 20 = .ok (.getfield 9, 3) := by decide +kernel
theorem dX4_indexOf_23 : decode cX4_indexOf 23 = .ok (.iload_n 2, 1) := by decide +kernel
theorem dX4_indexOf_24 : decode cX4_indexOf 24 = .ok (.iaload, 1) := by decide +kernel
theorem dX4_indexOf_25 : decode cX4_indexOf 25 = .ok (.iload_n 1, 1) := by decide +kernel
theorem dX4_indexOf_26 : decode cX4_indexOf 26 = .ok (.if_icmp .ne 5, 3) := by decide +kernel
theorem dX4_indexOf_29 : decode cX4_indexOf 29 = .ok (.iload_n 2, 1) := by decide +kernel
theorem dX4_indexOf_30 : decode cX4_indexOf 30 = .ok (.ireturn, 1) := by decide +kernel
theorem dX4_indexOf_31 : decode cX4_indexOf 31 = .ok (.iinc 2 1, 3) := by decide +kernel
theorem dX4_indexOf_34 : decode cX4_indexOf 34 = .ok (.goto (-32), 3) := by decide +kernel
theorem dX4_indexOf_37 : decode cX4_indexOf 37 = .ok (.iconst (-1), 1) := by decide +kernel
theorem dX4_indexOf_38 : decode cX4_indexOf 38 = .ok (.ireturn, 1) := by decide +kernel
theorem dX5_init_0 : decode cX5_init 0 = .ok (.aload_n 0, 1) := by decide +kernel
theorem dX5_init_1 : decode cX5_init 1 = .ok (.invokespecial 3, 3) := by decide +kernel
theorem dX5_init_4 : decode cX5_init 4 = .ok (.aload_n 0, 1) := by decide +kernel
theorem dX5_init_5 : decode cX5_init 5 = .ok (.bipush 64, 2) := by decide +kernel
theorem dX5_init_7 : decode cX5_init 7 = .ok (.newarray .int, 2) := by decide +kernel
theorem dX5_init_9 : decode cX5_init 9 = .ok (.putfield 9, 3) := by decide +kernel
theorem dX5_init_12 : decode cX5_init 12 = .ok (.aload_n 0, 1) := by decide +kernel
theorem dX5_init_13 : decode cX5_init 13 = .ok (.bipush 64, 2) := by decide +kernel
theorem dX5_init_15 : decode cX5_init 15 = .ok (.newarray .int, 2) := by decide +kernel
theorem dX5_init_17 : decode cX5_init 17 = .ok (.putfield 15, 3) := by decide +kernel
theorem dX5_init_20 : decode cX5_init 20 = .ok (.return_, 1) := by decide +kernel
theorem dX5_restart_0 : decode cX5_restart 0 = .ok (.aload_n 0, 1) := by decide +kernel
theorem dX5_restart_1 : decode cX5_restart 1 = .ok (.iconst 0, 1) := by decide +kernel
theorem dX5_restart_2 : decode cX5_restart 2 = .ok (.putfield 18, 3) := by decide +kernel
theorem dX5_restart_5 : decode cX5_restart 5 = .ok (.iconst 0, 1) := by decide +kernel
theorem dX5_restart_6 : decode cX5_restart 6 = .ok (.istore_n 1, 1) := by decide +kernel
theorem dX5_restart_7 : decode cX5_restart 7 = .ok (.iload_n 1, 1) := by decide +kernel
theorem dX5_restart_8 : decode cX5_restart 8 = .ok (.aload_n 0, 1) := by decide +kernel
theorem dX5_restart_9 : decode cX5_restart 9 = .ok (.getfield 15, 3) := by decide +kernel
theorem dX5_restart_12 : decode cX5_restart 12 = .ok (.arraylength, 1) := by decide +kernel
theorem dX5_restart_13 : decode cX5_restart 13 = .ok (.if_icmp .ge 17, 3) := by decide +kernel
theorem dX5_restart_16 : decode cX5_restart 16 = .ok (.aload_n 0, 1) := by decide +kernel
theorem dX5_restart_17 : decode cX5_restart 17 = .ok (.getfield 15, 3) := by decide +kernel
theorem dX5_restart_20 : decode cX5_restart 20 = .ok (.iload_n 1, 1) := by decide +kernel
theorem dX5_restart_21 : decode cX5_restart 21 = .ok (.bipush (-2), 2) := by decide +kernel
theorem dX5_restart_23 : decode cX5_restart 23 = .ok (.iastore, 1) := by decide +kernel
theorem dX5_restart_24 : decode cX5_restart 24 = .ok (.iinc 1 1, 3) := by decide +kernel
theorem dX5_restart_27 : decode cX5_restart 27 = .ok (.goto (-20), 3) := by decide +kernel
theorem dX5_restart_30 : decode cX5_restart 30 = .ok (.return_, 1) := by decide +kernel
theorem dX5_note_0 : decode cX5_note 0 = .ok (.iload_n 1, 1) := by decide +kernel
theorem dX5_note_1 : decode cX5_note 1 = .ok (.ifCond .lt 31, 3) := by decide +kernel
theorem dX5_note_4 : decode cX5_note 4 = .ok (.iload_n 1, 1) := by decide +kernel
theorem dX5_note_5 : decode cX5_note 5 = .ok (.aload_n 0, 1) := by decide +kernel
theorem dX5_note_6 : decode cX5_note 6 = .ok (.getfield 15, 3) := by decide +kernel
theorem dX5_note_9 : decode cX5_note 9 = .ok (.arraylength, 1) := by decide +kernel
theorem dX5_note_10 : decode cX5_note 10 = .ok (.if_icmp .ge 22, 3) := by decide +kernel
theorem dX5_note_13 : decode cX5_note 13 = .ok (.aload_n 0, 1) := by decide +kernel
theorem dX5_note_14 : decode cX5_note 14 = .ok (.getfield 18, 3) := by decide +kernel
theorem dX5_note_17 : decode cX5_note 17 = .ok (.ifCond .lt 15, 3) := by decide +kernel
theorem dX5_note_20 : decode cX5_note 20 = .ok (.aload_n 0, 1) := by decide +kernel
theorem dX5_note_21 : decode cX5_note 21 = .ok (.getfield 18, 3) := by decide +kernel
theorem dX5_note_24 : decode cX5_note 24 = .ok (.aload_n 0, 1) := by decide +kernel
theorem dX5_note_25 : decode cX5_note 25 = .ok (.getfield 9, 3) := by decide +kernel
theorem dX5_note_28 : decode cX5_note 28 = .ok (.arraylength, 1) := by decide +kernel
theorem dX5_note_29 : decode cX5_note 29 = .ok (.if_icmp .lt 4, 3) := by decide +kernel
theorem dX5_note_32 : decode cX5_note 32 = .ok (.return_, 1) := by decide +kernel
theorem dX5_note_33 : decode cX5_note 33 = .ok (.aload_n 0, 1) := by decide +kernel
theorem dX5_note_34 : decode cX5_note 34 = .ok (.getfield 15, 3) := by decide +kernel
theorem dX5_note_37 : decode cX5_note 37 = .ok (.iload_n 1, 1) := by decide +kernel
theorem dX5_note_38 : decode cX5_note 38 = .ok (.iaload, 1) := by decide +kernel
theorem dX5_note_39 : decode cX5_note 39 = .ok (.bipush (-2), 2) := by decide +kernel
theorem dX5_note_41 : decode cX5_note 41 = .ok (.if_icmp .ne 30, 3) := by decide +kernel
theorem dX5_note_44 : decode cX5_note 44 = .ok (.aload_n 0, 1) := by decide +kernel
theorem dX5_note_45 : decode cX5_note 45 = .ok (.getfield 15, 3) := by decide +kernel
theorem dX5_note_48 : decode cX5_note 48 = .ok (.iload_n 1, 1) := by decide +kernel
theorem dX5_note_49 : decode cX5_note 49 = .ok (.iload_n 2, 1) := by decide +kernel
theorem dX5_note_50 : decode cX5_note 50 = .ok (.iastore, 1) := by decide +kernel
theorem dX5_note_51 : decode cX5_note 51 = .ok (.aload_n 0, 1) := by decide +kernel
theorem dX5_note_52 : decode cX5_note 52 = .ok (.getfield 9, 3) := by decide +kernel
theorem dX5_note_55 : decode cX5_note 55 = .ok (.aload_n 0, 1) := by decide +kernel
theorem dX5_note_56 : decode cX5_note 56 = .ok (.getfield 18, 3) := by decide +kernel
theorem dX5_note_59 : decode cX5_note 59 = .ok (.iload_n 1, 1) := by decide +kernel
theorem dX5_note_60 : decode cX5_note 60 = .ok (.iastore, 1) := by decide +kernel
theorem dX5_note_61 : decode cX5_note 61 = .ok (.aload_n 0, 1) := by decide +kernel
theorem dX5_note_62 : decode cX5_note 62 = .ok (.dup, 1) := by decide +kernel
theorem dX5_note_63 : decode cX5_note 63 = .ok (.getfield 18, 3) := by decide +kernel
theorem dX5_note_66 : decode cX5_note 66 = .ok (.iconst 1, 1) := by decide +kernel
theorem dX5_note_67 : decode cX5_note 67 = .ok (.iadd, 1) := by decide +kernel
theorem dX5_note_68 : decode cX5_note 68 = .ok (.putfield 18, 3) := by decide +kernel
theorem dX5_note_71 : decode cX5_note 71 = .ok (.return_, 1) := by decide +kernel
theorem dX5_size_0 : decode cX5_size 0 = .ok (.aload_n 0, 1) := by decide +kernel
theorem dX5_size_1 : decode cX5_size 1 = .ok (.getfield 18, 3) := by decide +kernel
theorem dX5_size_4 : decode cX5_size 4 = .ok (.ireturn, 1) := by decide +kernel
theorem dX5_bucketAt_0 : decode cX5_bucketAt 0 = .ok (.iload_n 1, 1) := by decide +kernel
theorem dX5_bucketAt_1 : decode cX5_bucketAt 1 = .ok (.ifCond .lt 21, 3) := by decide +kernel
theorem dX5_bucketAt_4 : decode cX5_bucketAt 4 = .ok (.iload_n 1, 1) := by decide +kernel
theorem dX5_bucketAt_5 : decode cX5_bucketAt 5 = .ok (.aload_n 0, 1) := by decide +kernel
theorem dX5_bucketAt_6 : decode cX5_bucketAt 6 = .ok (.getfield 9, 3) := by decide +kernel
theorem dX5_bucketAt_9 : decode cX5_bucketAt 9 = .ok (.arraylength, 1) := by decide +kernel
theorem dX5_bucketAt_10 : decode cX5_bucketAt 10 = .ok (.if_icmp .ge 12, 3) := by decide +kernel
theorem dX5_bucketAt_13 : decode cX5_bucketAt 13 = .ok (.aload_n 0, 1) := by decide +kernel
theorem dX5_bucketAt_14 : decode cX5_bucketAt 14 = .ok (.getfield 9, 3) := by decide +kernel
theorem dX5_bucketAt_17 : decode cX5_bucketAt 17 = .ok (.iload_n 1, 1) := by decide +kernel
theorem dX5_bucketAt_18 : decode cX5_bucketAt 18 = .ok (.iaload, 1) := by decide +kernel
theorem dX5_bucketAt_19 : decode cX5_bucketAt 19 = .ok (.goto 4, 3) := by decide +kernel
theorem dX5_bucketAt_22 : decode cX5_bucketAt 22 = .ok (.iconst (-1), 1) := by decide +kernel
theorem dX5_bucketAt_23 : decode cX5_bucketAt 23 = .ok (.ireturn, 1) := by decide +kernel
theorem dX5_placeBefore_0 : decode cX5_placeBefore 0 = .ok (.iload_n 1, 1) := by decide +kernel
theorem dX5_placeBefore_1 : decode cX5_placeBefore 1 = .ok (.ifCond .lt 21, 3) := by decide +kernel
theorem dX5_placeBefore_4 : decode cX5_placeBefore 4 = .ok (.iload_n 1, 1) := by decide +kernel
theorem dX5_placeBefore_5 : decode cX5_placeBefore 5 = .ok (.aload_n 0, 1) := by decide +kernel
theorem dX5_placeBefore_6 : decode cX5_placeBefore 6 = .ok (.getfield 15, 3) := by decide +kernel
theorem dX5_placeBefore_9 : decode cX5_placeBefore 9 = .ok (.arraylength, 1) := by decide +kernel
theorem dX5_placeBefore_10 : decode cX5_placeBefore 10 = .ok (.if_icmp .ge 12, 3) := by decide +kernel
theorem dX5_placeBefore_13 : decode cX5_placeBefore 13 = .ok (.aload_n 0, 1) := by decide +kernel
theorem dX5_placeBefore_14 : decode cX5_placeBefore 14 = .ok (.getfield 15, 3) := by decide +kernel
theorem dX5_placeBefore_17 : decode cX5_placeBefore 17 = .ok (.iload_n 1, 1) := by decide +kernel
theorem dX5_placeBefore_18 : decode cX5_placeBefore 18 = .ok (.iaload, 1) := by decide +kernel
theorem dX5_placeBefore_19 : decode cX5_placeBefore 19 = .ok (.goto 4, 3) := by decide +kernel
theorem dX5_placeBefore_22 : decode cX5_placeBefore 22 = .ok (.iconst (-1), 1) := by decide +kernel
theorem dX5_placeBefore_23 : decode cX5_placeBefore 23 = .ok (.ireturn, 1) := by decide +kernel
theorem dX6_init_0 : decode cX6_init 0 = .ok (.aload_n 0, 1) := by decide +kernel
theorem dX6_init_1 : decode cX6_init 1 = .ok (.invokespecial 3, 3) := by decide +kernel
theorem dX6_init_4 : decode cX6_init 4 = .ok (.aload_n 0, 1) := by decide +kernel
theorem dX6_init_5 : decode cX6_init 5 = .ok (.bipush 100, 2) := by decide +kernel
theorem dX6_init_7 : decode cX6_init 7 = .ok (.newarray .int, 2) := by decide +kernel
theorem dX6_init_9 : decode cX6_init 9 = .ok (.putfield 9, 3) := by decide +kernel
theorem dX6_init_12 : decode cX6_init 12 = .ok (.return_, 1) := by decide +kernel
theorem dX6_isDigit_0 : decode cX6_isDigit 0 = .ok (.iload_n 0, 1) := by decide +kernel
theorem dX6_isDigit_1 : decode cX6_isDigit 1 = .ok (.bipush 48, 2) := by decide +kernel
theorem dX6_isDigit_3 : decode cX6_isDigit 3 = .ok (.if_icmp .lt 13, 3) := by decide +kernel
theorem dX6_isDigit_6 : decode cX6_isDigit 6 = .ok (.iload_n 0, 1) := by decide +kernel
theorem dX6_isDigit_7 : decode cX6_isDigit 7 = .ok (.bipush 57, 2) := by decide +kernel
theorem dX6_isDigit_9 : decode cX6_isDigit 9 = .ok (.if_icmp .gt 7, 3) := by decide +kernel
theorem dX6_isDigit_12 : decode cX6_isDigit 12 = .ok (.iconst 1, 1) := by decide +kernel
theorem dX6_isDigit_13 : decode cX6_isDigit 13 = .ok (.goto 4, 3) := by decide +kernel
theorem dX6_isDigit_16 : decode cX6_isDigit 16 = .ok (.iconst 0, 1) := by decide +kernel
theorem dX6_isDigit_17 : decode cX6_isDigit 17 = .ok (.ireturn, 1) := by decide +kernel
theorem dX6_size_0 : decode cX6_size 0 = .ok (.aload_n 0, 1) := by decide +kernel
theorem dX6_size_1 : decode cX6_size 1 = .ok (.getfield 15, 3) := by decide +kernel
theorem dX6_size_4 : decode cX6_size 4 = .ok (.ireturn, 1) := by decide +kernel
theorem dX6_byteAt_0 : decode cX6_byteAt 0 = .ok (.iload_n 1, 1) := by decide +kernel
theorem dX6_byteAt_1 : decode cX6_byteAt 1 = .ok (.ifCond .lt 29, 3) := by decide +kernel
theorem dX6_byteAt_4 : decode cX6_byteAt 4 = .ok (.iload_n 1, 1) := by decide +kernel
theorem dX6_byteAt_5 : decode cX6_byteAt 5 = .ok (.aload_n 0, 1) := by decide +kernel
theorem dX6_byteAt_6 : decode cX6_byteAt 6 = .ok (.getfield 15, 3) := by decide +kernel
theorem dX6_byteAt_9 : decode cX6_byteAt 9 = .ok (.if_icmp .ge 21, 3) := by decide +kernel
theorem dX6_byteAt_12 : decode cX6_byteAt 12 = .ok (.iload_n 1, 1) := by decide +kernel
theorem dX6_byteAt_13 : decode cX6_byteAt 13 = .ok (.aload_n 0, 1) := by decide +kernel
theorem dX6_byteAt_14 : decode cX6_byteAt 14 = .ok (.getfield 9, 3) := by decide +kernel
theorem dX6_byteAt_17 : decode cX6_byteAt 17 = .ok (.arraylength, 1) := by decide +kernel
theorem dX6_byteAt_18 : decode cX6_byteAt 18 = .ok (.if_icmp .ge 12, 3) := by decide +kernel
theorem dX6_byteAt_21 : decode cX6_byteAt 21 = .ok (.aload_n 0, 1) := by decide +kernel
theorem dX6_byteAt_22 : decode cX6_byteAt 22 = .ok (.getfield 9, 3) := by decide +kernel
theorem dX6_byteAt_25 : decode cX6_byteAt 25 = .ok (.iload_n 1, 1) := by decide +kernel
theorem dX6_byteAt_26 : decode cX6_byteAt 26 = .ok (.iaload, 1) := by decide +kernel
theorem dX6_byteAt_27 : decode cX6_byteAt 27 = .ok (.goto 4, 3) := by decide +kernel
theorem dX6_byteAt_30 : decode cX6_byteAt 30 = .ok (.iconst (-1), 1) := by decide +kernel
theorem dX6_byteAt_31 : decode cX6_byteAt 31 = .ok (.ireturn, 1) := by decide +kernel
theorem dX6_put_0 : decode cX6_put 0 = .ok (.aload_n 0, 1) := by decide +kernel
theorem dX6_put_1 : decode cX6_put 1 = .ok (.getfield 15, 3) := by decide +kernel
theorem dX6_put_4 : decode cX6_put 4 = .ok (.ifCond .lt 35, 3) := by decide +kernel
theorem dX6_put_7 : decode cX6_put 7 = .ok (.aload_n 0, 1) := by decide +kernel
theorem dX6_put_8 : decode cX6_put 8 = .ok (.getfield 15, 3) := by decide +kernel
theorem dX6_put_11 : decode cX6_put 11 = .ok (.aload_n 0, 1) := by decide +kernel
theorem dX6_put_12 : decode cX6_put 12 = .ok (.getfield 9, 3) := by decide +kernel
theorem dX6_put_15 : decode cX6_put 15 = .ok (.arraylength, 1) := by decide +kernel
theorem dX6_put_16 : decode cX6_put 16 = .ok (.if_icmp .ge 23, 3) := by decide +kernel
theorem dX6_put_19 : decode cX6_put 19 = .ok (.aload_n 0, 1) := by decide +kernel
theorem dX6_put_20 : decode cX6_put 20 = .ok (.getfield 9, 3) := by decide +kernel
theorem dX6_put_23 : decode cX6_put 23 = .ok (.aload_n 0, 1) := by decide +kernel
theorem dX6_put_24 : decode cX6_put 24 = .ok (.getfield 15, 3) := by decide +kernel
theorem dX6_put_27 : decode cX6_put 27 = .ok (.iload_n 1, 1) := by decide +kernel
theorem dX6_put_28 : decode cX6_put 28 = .ok (.iastore, 1) := by decide +kernel
theorem dX6_put_29 : decode cX6_put 29 = .ok (.aload_n 0, 1) := by decide +kernel
theorem dX6_put_30 : decode cX6_put 30 = .ok (.dup, 1) := by decide +kernel
theorem dX6_put_31 : decode cX6_put 31 = .ok (.getfield 15, 3) := by decide +kernel
theorem dX6_put_34 : decode cX6_put 34 = .ok (.iconst 1, 1) := by decide +kernel
theorem dX6_put_35 : decode cX6_put 35 = .ok (.iadd, 1) := by decide +kernel
theorem dX6_put_36 : decode cX6_put 36 = .ok (.putfield 15, 3) := by decide +kernel
theorem dX6_put_39 : decode cX6_put 39 = .ok (.aload_n 0, 1) := by decide +kernel
theorem dX6_put_40 : decode cX6_put 40 = .ok (.getfield 15, 3) := by decide +kernel
theorem dX6_put_43 : decode cX6_put 43 = .ok (.ireturn, 1) := by decide +kernel
theorem dX6_empty_0 : decode cX6_empty 0 = .ok (.aload_n 0, 1) := by decide +kernel
theorem dX6_empty_1 : decode cX6_empty 1 = .ok (.getfield 15, 3) := by decide +kernel
theorem dX6_empty_4 : decode cX6_empty 4 = .ok (.istore_n 1, 1) := by decide +kernel
theorem dX6_empty_5 : decode cX6_empty 5 = .ok (.aload_n 0, 1) := by decide +kernel
theorem dX6_empty_6 : decode cX6_empty 6 = .ok (.iconst 0, 1) := by decide +kernel
theorem dX6_empty_7 : decode cX6_empty 7 = .ok (.putfield 15, 3) := by decide +kernel
theorem dX6_empty_10 : decode cX6_empty 10 = .ok (.iload_n 1, 1) := by decide +kernel
theorem dX6_empty_11 : decode cX6_empty 11 = .ok (.ireturn, 1) := by decide +kernel
theorem dX6_errorPosition_0 : decode cX6_errorPosition 0 = .ok (.iconst 0, 1) := by decide +kernel
theorem dX6_errorPosition_1 : decode cX6_errorPosition 1 = .ok (.istore_n 1, 1) := by decide +kernel
theorem dX6_errorPosition_2 : decode cX6_errorPosition 2 = .ok (.iconst 0, 1) := by decide +kernel
theorem dX6_errorPosition_3 : decode cX6_errorPosition 3 = .ok (.istore_n 2, 1) := by decide +kernel
theorem dX6_errorPosition_4 : decode cX6_errorPosition 4 = .ok (.iload_n 2, 1) := by decide +kernel
theorem dX6_errorPosition_5 : decode cX6_errorPosition 5 = .ok (.aload_n 0, 1) := by decide +kernel
theorem dX6_errorPosition_6 : decode cX6_errorPosition 6 = .ok (.getfield 15, 3) := by decide +kernel
theorem dX6_errorPosition_9 : decode cX6_errorPosition 9 = .ok (.if_icmp .ge 26, 3) := by decide +kernel
theorem dX6_errorPosition_12 : decode cX6_errorPosition 12 = .ok (.iload_n 1, 1) := by decide +kernel
theorem dX6_errorPosition_13 : decode cX6_errorPosition 13 = .ok (.aload_n 0, 1) := by decide +kernel
theorem dX6_errorPosition_14 : decode cX6_errorPosition 14 = .ok (.iload_n 2, 1) := by decide +kernel
theorem dX6_errorPosition_15 : decode cX6_errorPosition 15 = .ok (.invokevirtual 19, 3) := by decide +kernel
theorem dX6_errorPosition_18 : decode cX6_errorPosition 18 = .ok (.invokestatic 23, 3) := by decide +kernel
theorem dX6_errorPosition_21 : decode cX6_errorPosition 21 = .ok (.istore_n 1, 1) := by decide +kernel
theorem dX6_errorPosition_22 : decode cX6_errorPosition 22 = .ok (.iload_n 1, 1) := by decide +kernel
theorem dX6_errorPosition_23 : decode cX6_errorPosition 23 = .ok (.iconst (-1), 1) := by decide +kernel
theorem dX6_errorPosition_24 : decode cX6_errorPosition 24 = .ok (.if_icmp .ne 5, 3) := by decide +kernel
theorem dX6_errorPosition_27 : decode cX6_errorPosition 27 = .ok (.iload_n 2, 1) := by decide +kernel
theorem dX6_errorPosition_28 : decode cX6_errorPosition 28 = .ok (.ireturn, 1) := by decide +kernel
theorem dX6_errorPosition_29 : decode cX6_errorPosition 29 = .ok (.iinc 2 1, 3) := by decide +kernel
theorem dX6_errorPosition_32 : decode cX6_errorPosition 32 = .ok (.goto (-28), 3) := by decide +kernel
theorem dX6_errorPosition_35 : decode cX6_errorPosition 35 = .ok (.iload_n 1, 1) := by decide +kernel
theorem dX6_errorPosition_36 : decode cX6_errorPosition 36 = .ok (.ifCond .ne 7, 3) := by decide +kernel
theorem dX6_errorPosition_39 : decode cX6_errorPosition 39 = .ok (.iconst (-1), 1) := by decide +kernel
theorem dX6_errorPosition_40 : decode cX6_errorPosition 40 = .ok (.goto 7, 3) := by decide +kernel
theorem dX6_errorPosition_43 : decode cX6_errorPosition 43 = .ok (.aload_n 0, 1) := by decide +kernel
theorem dX6_errorPosition_44 : decode cX6_errorPosition 44 = .ok (.getfield 15, 3) := by decide +kernel
theorem dX6_errorPosition_47 : decode cX6_errorPosition 47 = .ok (.ireturn, 1) := by decide +kernel
theorem dX6_stateAfter_0 : decode cX6_stateAfter 0 = .ok (.iload_n 0, 1) := by decide +kernel
theorem dX6_stateAfter_1 : decode cX6_stateAfter 1 = .ok (.ifCond .ne 29, 3) := by decide +kernel
theorem dX6_stateAfter_4 : decode cX6_stateAfter 4 = .ok (.iload_n 1, 1) := by decide +kernel
theorem dX6_stateAfter_5 : decode cX6_stateAfter 5 = .ok (.bipush 42, 2) := by decide +kernel
theorem dX6_stateAfter_7 : decode cX6_stateAfter 7 = .ok (.if_icmp .ne 5, 3) := by decide +kernel
theorem dX6_stateAfter_10 : decode cX6_stateAfter 10 = .ok (.iconst 4, 1) := by decide +kernel
theorem dX6_stateAfter_11 : decode cX6_stateAfter 11 = .ok (.ireturn, 1) := by decide +kernel
theorem dX6_stateAfter_12 : decode cX6_stateAfter 12 = .ok (.iload_n 1, 1) := by decide +kernel
theorem dX6_stateAfter_13 : decode cX6_stateAfter 13 = .ok (.bipush 43, 2) := by decide +kernel
theorem dX6_stateAfter_15 : decode cX6_stateAfter 15 = .ok (.if_icmp .eq 9, 3) := by decide +kernel
theorem dX6_stateAfter_18 : decode cX6_stateAfter 18 = .ok (.iload_n 1, 1) := by decide +kernel
theorem dX6_stateAfter_19 : decode cX6_stateAfter 19 = .ok (.bipush 45, 2) := by decide +kernel
theorem dX6_stateAfter_21 : decode cX6_stateAfter 21 = .ok (.if_icmp .ne 7, 3) := by decide +kernel
theorem dX6_stateAfter_24 : decode cX6_stateAfter 24 = .ok (.iconst 1, 1) := by decide +kernel
theorem dX6_stateAfter_25 : decode cX6_stateAfter 25 = .ok (.goto 4, 3) := by decide +kernel
theorem dX6_stateAfter_28 : decode cX6_stateAfter 28 = .ok (.iconst (-1), 1) := by decide +kernel
theorem dX6_stateAfter_29 : decode cX6_stateAfter 29 = .ok (.ireturn, 1) := by decide +kernel
theorem dX6_stateAfter_30 : decode cX6_stateAfter 30 = .ok (.iload_n 1, 1) := by decide +kernel
theorem dX6_stateAfter_31 : decode cX6_stateAfter 31 = .ok (.bipush 59, 2) := by decide +kernel
theorem dX6_stateAfter_33 : decode cX6_stateAfter 33 = .ok (.if_icmp .ne 10, 3) := by decide +kernel
theorem dX6_stateAfter_36 : decode cX6_stateAfter 36 = .ok (.iload_n 0, 1) := by decide +kernel
theorem dX6_stateAfter_37 : decode cX6_stateAfter 37 = .ok (.iconst 1, 1) := by decide +kernel
theorem dX6_stateAfter_38 : decode cX6_stateAfter 38 = .ok (.if_icmp .le 5, 3) := by decide +kernel
theorem dX6_stateAfter_41 : decode cX6_stateAfter 41 = .ok (.iconst 0, 1) := by decide +kernel
theorem dX6_stateAfter_42 : decode cX6_stateAfter 42 = .ok (.ireturn, 1) := by decide +kernel
theorem dX6_stateAfter_43 : decode cX6_stateAfter 43 = .ok (.iload_n 1, 1) := by decide +kernel
theorem dX6_stateAfter_44 : decode cX6_stateAfter 44 = .ok (.invokestatic 27, 3) := by decide +kernel
theorem dX6_stateAfter_47 : decode cX6_stateAfter 47 = .ok (.ifCond .eq 14, 3) := by decide +kernel
theorem dX6_stateAfter_50 : decode cX6_stateAfter 50 = .ok (.iload_n 0, 1) := by decide +kernel
theorem dX6_stateAfter_51 : decode cX6_stateAfter 51 = .ok (.iconst 3, 1) := by decide +kernel
theorem dX6_stateAfter_52 : decode cX6_stateAfter 52 = .ok (.if_icmp .gt 9, 3) := by decide +kernel
theorem dX6_stateAfter_55 : decode cX6_stateAfter 55 = .ok (.iload_n 0, 1) := by decide +kernel
theorem dX6_stateAfter_56 : decode cX6_stateAfter 56 = .ok (.iconst 1, 1) := by decide +kernel
theorem dX6_stateAfter_57 : decode cX6_stateAfter 57 = .ok (.iadd, 1) := by decide +kernel
theorem dX6_stateAfter_58 : decode cX6_stateAfter 58 = .ok (.goto 4, 3) := by decide +kernel
theorem dX6_stateAfter_61 : decode cX6_stateAfter 61 = .ok (.iconst (-1), 1) := by decide +kernel
theorem dX6_stateAfter_62 : decode cX6_stateAfter 62 = .ok (.ireturn, 1) := by decide +kernel
theorem dX7_init_0 : decode cX7_init 0 = .ok (.aload_n 0, 1) := by decide +kernel
theorem dX7_init_1 : decode cX7_init 1 = .ok (.invokespecial 3, 3) := by decide +kernel
theorem dX7_init_4 : decode cX7_init 4 = .ok (.aload_n 0, 1) := by decide +kernel
theorem dX7_init_5 : decode cX7_init 5 = .ok (.bipush 50, 2) := by decide +kernel
theorem dX7_init_7 : decode cX7_init 7 = .ok (.newarray .int, 2) := by decide +kernel
theorem dX7_init_9 : decode cX7_init 9 = .ok (.putfield 9, 3) := by decide +kernel
theorem dX7_init_12 : decode cX7_init 12 = .ok (.aload_n 0, 1) := by decide +kernel
theorem dX7_init_13 : decode cX7_init 13 = .ok (.bipush 50, 2) := by decide +kernel
theorem dX7_init_15 : decode cX7_init 15 = .ok (.newarray .int, 2) := by decide +kernel
theorem dX7_init_17 : decode cX7_init 17 = .ok (.putfield 15, 3) := by decide +kernel
theorem dX7_init_20 : decode cX7_init 20 = .ok (.return_, 1) := by decide +kernel
theorem dX7_restart_0 : decode cX7_restart 0 = .ok (.aload_n 0, 1) := by decide +kernel
theorem dX7_restart_1 : decode cX7_restart 1 = .ok (.iconst 0, 1) := by decide +kernel
theorem dX7_restart_2 : decode cX7_restart 2 = .ok (.putfield 18, 3) := by decide +kernel
theorem dX7_restart_5 : decode cX7_restart 5 = .ok (.return_, 1) := by decide +kernel
theorem dX7_note_0 : decode cX7_note 0 = .ok (.aload_n 0, 1) := by decide +kernel
theorem dX7_note_1 : decode cX7_note 1 = .ok (.getfield 18, 3) := by decide +kernel
theorem dX7_note_4 : decode cX7_note 4 = .ok (.ifCond .lt 57, 3) := by decide +kernel
theorem dX7_note_7 : decode cX7_note 7 = .ok (.aload_n 0, 1) := by decide +kernel
theorem dX7_note_8 : decode cX7_note 8 = .ok (.getfield 18, 3) := by decide +kernel
theorem dX7_note_11 : decode cX7_note 11 = .ok (.aload_n 0, 1) := by decide +kernel
theorem dX7_note_12 : decode cX7_note 12 = .ok (.getfield 9, 3) := by decide +kernel
theorem dX7_note_15 : decode cX7_note 15 = .ok (.arraylength, 1) := by decide +kernel
theorem dX7_note_16 : decode cX7_note 16 = .ok (.if_icmp .ge 45, 3) := by decide +kernel
theorem dX7_note_19 : decode cX7_note 19 = .ok (.aload_n 0, 1) := by decide +kernel
theorem dX7_note_20 : decode cX7_note 20 = .ok (.getfield 18, 3) := by decide +kernel
theorem dX7_note_23 : decode cX7_note 23 = .ok (.aload_n 0, 1) := by decide +kernel
theorem dX7_note_24 : decode cX7_note 24 = .ok (.getfield 15, 3) := by decide +kernel
theorem dX7_note_27 : decode cX7_note 27 = .ok (.arraylength, 1) := by decide +kernel
theorem dX7_note_28 : decode cX7_note 28 = .ok (.if_icmp .ge 33, 3) := by decide +kernel
theorem dX7_note_31 : decode cX7_note 31 = .ok (.aload_n 0, 1) := by decide +kernel
theorem dX7_note_32 : decode cX7_note 32 = .ok (.getfield 9, 3) := by decide +kernel
theorem dX7_note_35 : decode cX7_note 35 = .ok (.aload_n 0, 1) := by decide +kernel
theorem dX7_note_36 : decode cX7_note 36 = .ok (.getfield 18, 3) := by decide +kernel
theorem dX7_note_39 : decode cX7_note 39 = .ok (.iload_n 1, 1) := by decide +kernel
theorem dX7_note_40 : decode cX7_note 40 = .ok (.iastore, 1) := by decide +kernel
theorem dX7_note_41 : decode cX7_note 41 = .ok (.aload_n 0, 1) := by decide +kernel
theorem dX7_note_42 : decode cX7_note 42 = .ok (.getfield 15, 3) := by decide +kernel
theorem dX7_note_45 : decode cX7_note 45 = .ok (.aload_n 0, 1) := by decide +kernel
theorem dX7_note_46 : decode cX7_note 46 = .ok (.getfield 18, 3) := by decide +kernel
theorem dX7_note_49 : decode cX7_note 49 = .ok (.iload_n 2, 1) := by decide +kernel
theorem dX7_note_50 : decode cX7_note 50 = .ok (.iastore, 1) := by decide +kernel
theorem dX7_note_51 : decode cX7_note 51 = .ok (.aload_n 0, 1) := by decide +kernel
theorem dX7_note_52 : decode cX7_note 52 = .ok (.dup, 1) := by decide +kernel
theorem dX7_note_53 : decode cX7_note 53 = .ok (.getfield 18, 3) := by decide +kernel
theorem dX7_note_56 : decode cX7_note 56 = .ok (.iconst 1, 1) := by decide +kernel
theorem dX7_note_57 : decode cX7_note 57 = .ok (.iadd, 1) := by decide +kernel
theorem dX7_note_58 : decode cX7_note 58 = .ok (.putfield 18, 3) := by decide +kernel
theorem dX7_note_61 : decode cX7_note 61 = .ok (.return_, 1) := by decide +kernel
theorem dX7_steps_0 : decode cX7_steps 0 = .ok (.aload_n 0, 1) := by decide +kernel
theorem dX7_steps_1 : decode cX7_steps 1 = .ok (.getfield 18, 3) := by decide +kernel
theorem dX7_steps_4 : decode cX7_steps 4 = .ok (.ireturn, 1) := by decide +kernel
theorem dX7_placeAt_0 : decode cX7_placeAt 0 = .ok (.iload_n 1, 1) := by decide +kernel
theorem dX7_placeAt_1 : decode cX7_placeAt 1 = .ok (.ifCond .lt 29, 3) := by decide +kernel
theorem dX7_placeAt_4 : decode cX7_placeAt 4 = .ok (.iload_n 1, 1) := by decide +kernel
theorem dX7_placeAt_5 : decode cX7_placeAt 5 = .ok (.aload_n 0, 1) := by decide +kernel
theorem dX7_placeAt_6 : decode cX7_placeAt 6 = .ok (.getfield 18, 3) := by decide +kernel
theorem dX7_placeAt_9 : decode cX7_placeAt 9 = .ok (.if_icmp .ge 21, 3) := by decide +kernel
theorem dX7_placeAt_12 : decode cX7_placeAt 12 = .ok (.iload_n 1, 1) := by decide +kernel
theorem dX7_placeAt_13 : decode cX7_placeAt 13 = .ok (.aload_n 0, 1) := by decide +kernel
theorem dX7_placeAt_14 : decode cX7_placeAt 14 = .ok (.getfield 9, 3) := by decide +kernel
theorem dX7_placeAt_17 : decode cX7_placeAt 17 = .ok (.arraylength, 1) := by decide +kernel
theorem dX7_placeAt_18 : decode cX7_placeAt 18 = .ok (.if_icmp .ge 12, 3) := by decide +kernel
theorem dX7_placeAt_21 : decode cX7_placeAt 21 = .ok (.aload_n 0, 1) := by decide +kernel
theorem dX7_placeAt_22 : decode cX7_placeAt 22 = .ok (.getfield 9, 3) := by decide +kernel
theorem dX7_placeAt_25 : decode cX7_placeAt 25 = .ok (.iload_n 1, 1) := by decide +kernel
theorem dX7_placeAt_26 : decode cX7_placeAt 26 = .ok (.iaload, 1) := by decide +kernel
theorem dX7_placeAt_27 : decode cX7_placeAt 27 = .ok (.goto 4, 3) := by decide +kernel
theorem dX7_placeAt_30 : decode cX7_placeAt 30 = .ok (.iconst (-1), 1) := by decide +kernel
theorem dX7_placeAt_31 : decode cX7_placeAt 31 = .ok (.ireturn, 1) := by decide +kernel
theorem dX7_tagAt_0 : decode cX7_tagAt 0 = .ok (.iload_n 1, 1) := by decide +kernel
theorem dX7_tagAt_1 : decode cX7_tagAt 1 = .ok (.ifCond .lt 29, 3) := by decide +kernel
theorem dX7_tagAt_4 : decode cX7_tagAt 4 = .ok (.iload_n 1, 1) := by decide +kernel
theorem dX7_tagAt_5 : decode cX7_tagAt 5 = .ok (.aload_n 0, 1) := by decide +kernel
theorem dX7_tagAt_6 : decode cX7_tagAt 6 = .ok (.getfield 18, 3) := by decide +kernel
theorem dX7_tagAt_9 : decode cX7_tagAt 9 = .ok (.if_icmp .ge 21, 3) := by decide +kernel
theorem dX7_tagAt_12 : decode cX7_tagAt 12 = .ok (.iload_n 1, 1) := by decide +kernel
theorem dX7_tagAt_13 : decode cX7_tagAt 13 = .ok (.aload_n 0, 1) := by decide +kernel
theorem dX7_tagAt_14 : decode cX7_tagAt 14 = .ok (.getfield 15, 3) := by decide +kernel
theorem dX7_tagAt_17 : decode cX7_tagAt 17 = .ok (.arraylength, 1) := by decide +kernel
theorem dX7_tagAt_18 : decode cX7_tagAt 18 = .ok (.if_icmp .ge 12, 3) := by decide +kernel
theorem dX7_tagAt_21 : decode cX7_tagAt 21 = .ok (.aload_n 0, 1) := by decide +kernel
theorem dX7_tagAt_22 : decode cX7_tagAt 22 = .ok (.getfield 15, 3) := by decide +kernel
theorem dX7_tagAt_25 : decode cX7_tagAt 25 = .ok (.iload_n 1, 1) := by decide +kernel
theorem dX7_tagAt_26 : decode cX7_tagAt 26 = .ok (.iaload, 1) := by decide +kernel
theorem dX7_tagAt_27 : decode cX7_tagAt 27 = .ok (.goto 4, 3) := by decide +kernel
theorem dX7_tagAt_30 : decode cX7_tagAt 30 = .ok (.iconst (-1), 1) := by decide +kernel
theorem dX7_tagAt_31 : decode cX7_tagAt 31 = .ok (.ireturn, 1) := by decide +kernel
theorem dX8_init_0 : decode cX8_init 0 = .ok (.aload_n 0, 1) := by decide +kernel
theorem dX8_init_1 : decode cX8_init 1 = .ok (.invokespecial 1, 3) := by decide +kernel
theorem dX8_init_4 : decode cX8_init 4 = .ok (.aload_n 0, 1) := by decide +kernel
theorem dX8_init_5 : decode cX8_init 5 = .ok (.new 7, 3) := by decide +kernel
theorem dX8_init_8 : decode cX8_init 8 = .ok (.dup, 1) := by decide +kernel
theorem dX8_init_9 : decode cX8_init 9 = .ok (.invokespecial 9, 3) := by decide +kernel
theorem dX8_init_12 : decode cX8_init 12 = .ok (.putfield 10, 3) := by decide +kernel
theorem dX8_init_15 : decode cX8_init 15 = .ok (.aload_n 0, 1) := by decide +kernel
theorem dX8_init_16 : decode cX8_init 16 = .ok (.new 7, 3) := by decide +kernel
theorem dX8_init_19 : decode cX8_init 19 = .ok (.dup, 1) := by decide +kernel
theorem dX8_init_20 : decode cX8_init 20 = .ok (.invokespecial 9, 3) := by decide +kernel
theorem dX8_init_23 : decode cX8_init 23 = .ok (.putfield 16, 3) := by decide +kernel
theorem dX8_init_26 : decode cX8_init 26 = .ok (.aload_n 0, 1) := by decide +kernel
theorem dX8_init_27 : decode cX8_init 27 = .ok (.new 19, 3) := by decide +kernel
theorem dX8_init_30 : decode cX8_init 30 = .ok (.dup, 1) := by decide +kernel
theorem dX8_init_31 : decode cX8_init 31 = .ok (.invokespecial 21, 3) := by decide +kernel
theorem dX8_init_34 : decode cX8_init 34 = .ok (.putfield 22, 3) := by decide +kernel
theorem dX8_init_37 : decode cX8_init 37 = .ok (.aload_n 0, 1) := by decide +kernel
theorem dX8_init_38 : decode cX8_init 38 = .ok (.new 26, 3) := by decide +kernel
theorem dX8_init_41 : decode cX8_init 41 = .ok (.dup, 1) := by decide +kernel
theorem dX8_init_42 : decode cX8_init 42 = .ok (.invokespecial 28, 3) := by decide +kernel
theorem dX8_init_45 : decode cX8_init 45 = .ok (.putfield 29, 3) := by decide +kernel
theorem dX8_init_48 : decode cX8_init 48 = .ok (.return_, 1) := by decide +kernel
theorem dX8_tag_0 : decode cX8_tag 0 = .ok (.iload_n 1, 1) := by decide +kernel
theorem dX8_tag_1 : decode cX8_tag 1 = .ok (.invokestatic 33, 3) := by decide +kernel
theorem dX8_tag_4 : decode cX8_tag 4 = .ok (.aload_n 0, 1) := by decide +kernel
theorem dX8_tag_5 : decode cX8_tag 5 = .ok (.getfield 10, 3) := by decide +kernel
theorem dX8_tag_8 : decode cX8_tag 8 = .ok (.iload_n 1, 1) := by decide +kernel
theorem dX8_tag_9 : decode cX8_tag 9 = .ok (.invokevirtual 37, 3) := by decide +kernel
theorem dX8_tag_12 : decode cX8_tag 12 = .ok (.invokestatic 41, 3) := by decide +kernel
theorem dX8_tag_15 : decode cX8_tag 15 = .ok (.ireturn, 1) := by decide +kernel
theorem dX8_body_0 : decode cX8_body 0 = .ok (.iload_n 1, 1) := by decide +kernel
theorem dX8_body_1 : decode cX8_body 1 = .ok (.invokestatic 33, 3) := by decide +kernel
theorem dX8_body_4 : decode cX8_body 4 = .ok (.aload_n 0, 1) := by decide +kernel
theorem dX8_body_5 : decode cX8_body 5 = .ok (.getfield 10, 3) := by decide +kernel
theorem dX8_body_8 : decode cX8_body 8 = .ok (.iload_n 1, 1) := by decide +kernel
theorem dX8_body_9 : decode cX8_body 9 = .ok (.invokevirtual 37, 3) := by decide +kernel
theorem dX8_body_12 : decode cX8_body 12 = .ok (.invokestatic 46, 3) := by decide +kernel
theorem dX8_body_15 : decode cX8_body 15 = .ok (.ireturn, 1) := by decide +kernel
theorem dX8_bucket_0 : decode cX8_bucket 0 = .ok (.iload_n 1, 1) := by decide +kernel
theorem dX8_bucket_1 : decode cX8_bucket 1 = .ok (.invokestatic 33, 3) := by decide +kernel
theorem dX8_bucket_4 : decode cX8_bucket 4 = .ok (.aload_n 0, 1) := by decide +kernel
theorem dX8_bucket_5 : decode cX8_bucket 5 = .ok (.getfield 10, 3) := by decide +kernel
theorem dX8_bucket_8 : decode cX8_bucket 8 = .ok (.iload_n 1, 1) := by decide +kernel
theorem dX8_bucket_9 : decode cX8_bucket 9 = .ok (.invokevirtual 49, 3) := by decide +kernel
theorem dX8_bucket_12 : decode cX8_bucket 12 = .ok (.istore_n 3, 1) := by decide +kernel
theorem dX8_bucket_13 : decode cX8_bucket 13 = .ok (.iload_n 2, 1) := by decide +kernel
theorem dX8_bucket_14 : decode cX8_bucket 14 = .ok (.ifCond .eq 14, 3) := by decide +kernel
theorem dX8_bucket_17 : decode cX8_bucket 17 = .ok (.aload_n 0, 1) := by decide +kernel
theorem dX8_bucket_18 : decode cX8_bucket 18 = .ok (.getfield 10, 3) := by decide +kernel
theorem dX8_bucket_21 : decode cX8_bucket 21 = .ok (.iload_n 3, 1) := by decide +kernel
theorem dX8_bucket_22 : decode cX8_bucket 22 = .ok (.invokevirtual 52, 3) := by decide +kernel
theorem dX8_bucket_25 : decode cX8_bucket 25 = .ok (.goto 7, 3) := by decide +kernel
theorem dX8_bucket_28 : decode cX8_bucket 28 = .ok (.iload_n 3, 1) := by decide +kernel
theorem dX8_bucket_29 : decode cX8_bucket 29 = .ok (.invokestatic 55, 3) := by decide +kernel
theorem dX8_bucket_32 : decode cX8_bucket 32 = .ok (.ireturn, 1) := by decide +kernel
theorem dX8_found_0 : decode cX8_found 0 = .ok (.iload_n 1, 1) := by decide +kernel
theorem dX8_found_1 : decode cX8_found 1 = .ok (.invokestatic 33, 3) := by decide +kernel
theorem dX8_found_4 : decode cX8_found 4 = .ok (.aload_n 0, 1) := by decide +kernel
theorem dX8_found_5 : decode cX8_found 5 = .ok (.getfield 10, 3) := by decide +kernel
theorem dX8_found_8 : decode cX8_found 8 = .ok (.iload_n 1, 1) := by decide +kernel
theorem dX8_found_9 : decode cX8_found 9 = .ok (.invokevirtual 60, 3) := by decide +kernel
theorem dX8_found_12 : decode cX8_found 12 = .ok (.ireturn, 1) := by decide +kernel
theorem dX8_place_0 : decode cX8_place 0 = .ok (.iload_n 1, 1) := by decide +kernel
theorem dX8_place_1 : decode cX8_place 1 = .ok (.invokestatic 33, 3) := by decide +kernel
theorem dX8_place_4 : decode cX8_place 4 = .ok (.aload_n 0, 1) := by decide +kernel
theorem dX8_place_5 : decode cX8_place 5 = .ok (.getfield 10, 3) := by decide +kernel
theorem dX8_place_8 : decode cX8_place 8 = .ok (.iload_n 1, 1) := by decide +kernel
theorem dX8_place_9 : decode cX8_place 9 = .ok (.invokevirtual 64, 3) := by decide +kernel
theorem dX8_place_12 : decode cX8_place 12 = .ok (.ireturn, 1) := by decide +kernel
theorem dX8_present_0 : decode cX8_present 0 = .ok (.iload_n 1, 1) := by decide +kernel
theorem dX8_present_1 : decode cX8_present 1 = .ok (.iconst 0, 1) := by decide +kernel
theorem dX8_present_2 : decode cX8_present 2 = .ok (.aload_n 0, 1) := by decide +kernel
theorem dX8_present_3 : decode cX8_present 3 = .ok (.getfield 10, 3) := by decide +kernel
theorem dX8_present_6 : decode cX8_present 6 = .ok (.invokevirtual 67, 3) := by decide +kernel
theorem dX8_present_9 : decode cX8_present 9 = .ok (.iconst 1, 1) := by decide +kernel
theorem dX8_present_10 : decode cX8_present 10 = .ok (.isub, 1) := by decide +kernel
theorem dX8_present_11 : decode cX8_present 11 = .ok (.invokestatic 71, 3) := by decide +kernel
theorem dX8_present_14 : decode cX8_present 14 = .ok (.invokestatic 75, 3) := by decide +kernel
theorem dX8_present_17 : decode cX8_present 17 = .ok (.aload_n 0, 1) := by decide +kernel
theorem dX8_present_18 : decode cX8_present 18 = .ok (.getfield 10, 3) := by decide +kernel
theorem dX8_present_21 : decode cX8_present 21 = .ok (.iload_n 1, 1) := by decide +kernel
theorem dX8_present_22 : decode cX8_present 22 = .ok (.invokevirtual 79, 3) := by decide +kernel
theorem dX8_present_25 : decode cX8_present 25 = .ok (.ireturn, 1) := by decide +kernel
theorem dX8_count_0 : decode cX8_count 0 = .ok (.aload_n 0, 1) := by decide +kernel
theorem dX8_count_1 : decode cX8_count 1 = .ok (.getfield 10, 3) := by decide +kernel
theorem dX8_count_4 : decode cX8_count 4 = .ok (.invokevirtual 67, 3) := by decide +kernel
theorem dX8_count_7 : decode cX8_count 7 = .ok (.ireturn, 1) := by decide +kernel
theorem dX8_add_0 : decode cX8_add 0 = .ok (.iload_n 1, 1) := by decide +kernel
theorem dX8_add_1 : decode cX8_add 1 = .ok (.invokestatic 33, 3) := by decide +kernel
theorem dX8_add_4 : decode cX8_add 4 = .ok (.aload_n 0, 1) := by decide +kernel
theorem dX8_add_5 : decode cX8_add 5 = .ok (.getfield 16, 3) := by decide +kernel
theorem dX8_add_8 : decode cX8_add 8 = .ok (.aload_n 0, 1) := by decide +kernel
theorem dX8_add_9 : decode cX8_add 9 = .ok (.getfield 10, 3) := by decide +kernel
theorem dX8_add_12 : decode cX8_add 12 = .ok (.invokevirtual 82, 3) := by decide +kernel
theorem dX8_add_15 : decode cX8_add 15 = .ok (.aload_n 0, 1) := by decide +kernel
theorem dX8_add_16 : decode cX8_add 16 = .ok (.aload_n 0, 1) := by decide +kernel
theorem dX8_add_17 : decode cX8_add 17 = .ok (.getfield 16, 3) := by decide +kernel
theorem dX8_add_20 : decode cX8_add 20 = .ok (.iload_n 1, 1) := by decide +kernel
theorem dX8_add_21 : decode cX8_add 21 = .ok (.invokevirtual 86, 3) := by decide +kernel
theorem dX8_add_24 : decode cX8_add 24 = .ok (.invokevirtual 89, 3) := by decide +kernel
theorem dX8_add_27 : decode cX8_add 27 = .ok (.ireturn, 1) := by decide +kernel
theorem dX8_addShortest_0 : decode cX8_addShortest 0 = .ok (.iload_n 1, 1) := by decide +kernel
theorem dX8_addShortest_1 : decode cX8_addShortest 1 = .ok (.invokestatic 33, 3) := by decide +kernel
theorem dX8_addShortest_4 : decode cX8_addShortest 4 = .ok (.aload_n 0, 1) := by decide +kernel
theorem dX8_addShortest_5 : decode cX8_addShortest 5 = .ok (.getfield 16, 3) := by decide +kernel
theorem dX8_addShortest_8 : decode cX8_addShortest 8 = .ok (.aload_n 0, 1) := by decide +kernel
theorem dX8_addShortest_9 : decode cX8_addShortest 9 = .ok (.getfield 10, 3) := by decide +kernel
theorem dX8_addShortest_12 : decode cX8_addShortest 12 = .ok (.invokevirtual 82, 3) := by decide +kernel
theorem dX8_addShortest_15 : decode cX8_addShortest 15 = .ok (.aload_n 0, 1) := by decide +kernel
theorem dX8_addShortest_16 : decode cX8_addShortest 16 = .ok (.aload_n 0, 1) := by decide +kernel
theorem dX8_addShortest_17 : decode cX8_addShortest 17 = .ok (.getfield 16, 3) := by decide +kernel
theorem dX8_addShortest_20 : decode cX8_addShortest 20 = .ok (.iload_n 1, 1) := by decide +kernel
theorem dX8_addShortest_21 : decode cX8_addShortest 21 = .ok (.invokevirtual 92, 3) := by decide +kernel
theorem dX8_addShortest_24 : decode cX8_addShortest 24 = .ok (.invokevirtual 89, 3) := by decide +kernel
theorem dX8_addShortest_27 : decode cX8_addShortest 27 = .ok (.ireturn, 1) := by decide +kernel
theorem dX8_delete_0 : decode cX8_delete 0 = .ok (.iload_n 1, 1) := by decide +kernel
theorem dX8_delete_1 : decode cX8_delete 1 = .ok (.invokestatic 33, 3) := by decide +kernel
theorem dX8_delete_4 : decode cX8_delete 4 = .ok (.aload_n 0, 1) := by decide +kernel
theorem dX8_delete_5 : decode cX8_delete 5 = .ok (.getfield 16, 3) := by decide +kernel
theorem dX8_delete_8 : decode cX8_delete 8 = .ok (.aload_n 0, 1) := by decide +kernel
theorem dX8_delete_9 : decode cX8_delete 9 = .ok (.getfield 10, 3) := by decide +kernel
theorem dX8_delete_12 : decode cX8_delete 12 = .ok (.invokevirtual 82, 3) := by decide +kernel
theorem dX8_delete_15 : decode cX8_delete 15 = .ok (.aload_n 0, 1) := by decide +kernel
theorem dX8_delete_16 : decode cX8_delete 16 = .ok (.aload_n 0, 1) := by decide +kernel
theorem dX8_delete_17 : decode cX8_delete 17 = .ok (.getfield 16, 3) := by decide +kernel
theorem dX8_delete_20 : decode cX8_delete 20 = .ok (.iload_n 1, 1) := by decide +kernel
theorem dX8_delete_21 : decode cX8_delete 21 = .ok (.invokevirtual 95, 3) := by decide +kernel
theorem dX8_delete_24 : decode cX8_delete 24 = .ok (.invokevirtual 89, 3) := by decide +kernel
theorem dX8_delete_27 : decode cX8_delete 27 = .ok (.ireturn, 1) := by decide +kernel
theorem dX8_grow_0 : decode cX8_grow 0 = .ok (.aload_n 0, 1) := by decide +kernel
theorem dX8_grow_1 : decode cX8_grow 1 = .ok (.getfield 16, 3) := by decide +kernel
theorem dX8_grow_4 : decode cX8_grow 4 = .ok (.aload_n 0, 1) := by decide +kernel
theorem dX8_grow_5 : decode cX8_grow 5 = .ok (.getfield 10, 3) := by decide +kernel
theorem dX8_grow_8 : decode cX8_grow 8 = .ok (.invokevirtual 82, 3) := by decide +kernel
theorem dX8_grow_11 : decode cX8_grow 11 = .ok (.aload_n 0, 1) := by decide +kernel
theorem dX8_grow_12 : decode cX8_grow 12 = .ok (.aload_n 0, 1) := by decide +kernel
theorem dX8_grow_13 : decode cX8_grow 13 = .ok (.getfield 16, 3) := by decide +kernel
theorem dX8_grow_16 : decode cX8_grow 16 = .ok (.invokevirtual 98, 3) := by decide +kernel
theorem dX8_grow_19 : decode cX8_grow 19 = .ok (.invokevirtual 89, 3) := by decide +kernel
theorem dX8_grow_22 : decode cX8_grow 22 = .ok (.ireturn, 1) := by decide +kernel
theorem dX8_rebuild_0 : decode cX8_rebuild 0 = .ok (.iload_n 1, 1) := by decide +kernel
theorem dX8_rebuild_1 : decode cX8_rebuild 1 = .ok (.iconst 1, 1) := by decide +kernel
theorem dX8_rebuild_2 : decode cX8_rebuild 2 = .ok (.bipush 6, 2) := by decide +kernel
theorem dX8_rebuild_4 : decode cX8_rebuild 4 = .ok (.invokestatic 71, 3) := by decide +kernel
theorem dX8_rebuild_7 : decode cX8_rebuild 7 = .ok (.invokestatic 101, 3) := by decide +kernel
theorem dX8_rebuild_10 : decode cX8_rebuild 10 = .ok (.iload_n 2, 1) := by decide +kernel
theorem dX8_rebuild_11 : decode cX8_rebuild 11 = .ok (.iconst 1, 1) := by decide +kernel
theorem dX8_rebuild_12 : decode cX8_rebuild 12 = .ok (.iconst 4, 1) := by decide +kernel
theorem dX8_rebuild_13 : decode cX8_rebuild 13 = .ok (.invokestatic 71, 3) := by decide +kernel
theorem dX8_rebuild_16 : decode cX8_rebuild 16 = .ok (.invokestatic 101, 3) := by decide +kernel
theorem dX8_rebuild_19 : decode cX8_rebuild 19 = .ok (.iload_n 3, 1) := by decide +kernel
theorem dX8_rebuild_20 : decode cX8_rebuild 20 = .ok (.iconst 1, 1) := by decide +kernel
theorem dX8_rebuild_21 : decode cX8_rebuild 21 = .ok (.bipush 8, 2) := by decide +kernel
theorem dX8_rebuild_23 : decode cX8_rebuild 23 = .ok (.invokestatic 71, 3) := by decide +kernel
theorem dX8_rebuild_26 : decode cX8_rebuild 26 = .ok (.invokestatic 101, 3) := by decide +kernel
theorem dX8_rebuild_29 : decode cX8_rebuild 29 = .ok (.iload 4, 2) := by decide +kernel
theorem dX8_rebuild_31 : decode cX8_rebuild 31 = .ok (.iconst 0, 1) := by decide +kernel
theorem dX8_rebuild_32 : decode cX8_rebuild 32 = .ok (.bipush 99, 2) := by decide +kernel
theorem dX8_rebuild_34 : decode cX8_rebuild 34 = .ok (.invokestatic 71, 3) := by decide +kernel
theorem dX8_rebuild_37 : decode cX8_rebuild 37 = .ok (.invokestatic 101, 3) := by decide +kernel
theorem dX8_rebuild_40 : decode cX8_rebuild 40 = .ok (.aload_n 0, 1) := by decide +kernel
theorem dX8_rebuild_41 : decode cX8_rebuild 41 = .ok (.getfield 16, 3) := by decide +kernel
theorem dX8_rebuild_44 : decode cX8_rebuild 44 = .ok (.aload_n 0, 1) := by decide +kernel
theorem dX8_rebuild_45 : decode cX8_rebuild 45 = .ok (.getfield 10, 3) := by decide +kernel
theorem dX8_rebuild_48 : decode cX8_rebuild 48 = .ok (.invokevirtual 82, 3) := by decide +kernel
theorem dX8_rebuild_51 : decode cX8_rebuild 51 = .ok (.aload_n 0, 1) := by decide +kernel
theorem dX8_rebuild_52 : decode cX8_rebuild 52 = .ok (.getfield 16, 3) := by decide +kernel
theorem dX8_rebuild_55 : decode cX8_rebuild 55 = .ok (.iload_n 1, 1) := by decide +kernel
theorem dX8_rebuild_56 : decode cX8_rebuild 56 = .ok (.iload_n 2, 1) := by decide +kernel
theorem dX8_rebuild_57 : decode cX8_rebuild 57 = .ok (.iload_n 3, 1) := by decide +kernel
theorem dX8_rebuild_58 : decode cX8_rebuild 58 = .ok (.iload 4, 2) := by decide +kernel
theorem dX8_rebuild_60 : decode cX8_rebuild 60 = .ok (.invokevirtual 104, 3) := by decide +kernel
theorem dX8_rebuild_63 : decode cX8_rebuild 63 = .ok (.istore 5, 2) := by decide +kernel
theorem dX8_rebuild_65 : decode cX8_rebuild 65 = .ok (.aload_n 0, 1) := by decide +kernel
theorem dX8_rebuild_66 : decode cX8_rebuild 66 = .ok (.iload 5, 2) := by decide +kernel
theorem dX8_rebuild_68 : decode cX8_rebuild 68 = .ok (.ifCond .eq 13, 3) := by decide +kernel
theorem dX8_rebuild_71 : decode cX8_rebuild 71 = .ok (.aload_n 0, 1) := by decide +kernel
theorem dX8_rebuild_72 : decode cX8_rebuild 72 = .ok (.getfield 16, 3) := by decide +kernel
theorem dX8_rebuild_75 : decode cX8_rebuild 75 = .ok (.invokevirtual 108, 3) := by decide +kernel
theorem dX8_rebuild_78 : decode cX8_rebuild 78 = .ok (.goto 4, 3) := by decide +kernel
theorem dX8_rebuild_81 : decode cX8_rebuild 81 = .ok (.iconst (-1), 1) := by decide +kernel
theorem dX8_rebuild_82 : decode cX8_rebuild 82 = .ok (.invokevirtual 89, 3) := by decide +kernel
theorem dX8_rebuild_85 : decode cX8_rebuild 85 = .ok (.ireturn, 1) := by decide +kernel
theorem dX8_setLimit_0 : decode cX8_setLimit 0 = .ok (.iload_n 1, 1) := by decide +kernel
theorem dX8_setLimit_1 : decode cX8_setLimit 1 = .ok (.iconst 0, 1) := by decide +kernel
theorem dX8_setLimit_2 : decode cX8_setLimit 2 = .ok (.bipush 50, 2) := by decide +kernel
theorem dX8_setLimit_4 : decode cX8_setLimit 4 = .ok (.invokestatic 71, 3) := by decide +kernel
theorem dX8_setLimit_7 : decode cX8_setLimit 7 = .ok (.invokestatic 101, 3) := by decide +kernel
theorem dX8_setLimit_10 : decode cX8_setLimit 10 = .ok (.aload_n 0, 1) := by decide +kernel
theorem dX8_setLimit_11 : decode cX8_setLimit 11 = .ok (.getfield 16, 3) := by decide +kernel
theorem dX8_setLimit_14 : decode cX8_setLimit 14 = .ok (.aload_n 0, 1) := by decide +kernel
theorem dX8_setLimit_15 : decode cX8_setLimit 15 = .ok (.getfield 10, 3) := by decide +kernel
theorem dX8_setLimit_18 : decode cX8_setLimit 18 = .ok (.invokevirtual 82, 3) := by decide +kernel
theorem dX8_setLimit_21 : decode cX8_setLimit 21 = .ok (.aload_n 0, 1) := by decide +kernel
theorem dX8_setLimit_22 : decode cX8_setLimit 22 = .ok (.aload_n 0, 1) := by decide +kernel
theorem dX8_setLimit_23 : decode cX8_setLimit 23 = .ok (.getfield 16, 3) := by decide +kernel
theorem dX8_setLimit_26 : decode cX8_setLimit 26 = .ok (.iload_n 1, 1) := by decide +kernel
theorem dX8_setLimit_27 : decode cX8_setLimit 27 = .ok (.invokevirtual 111, 3) := by decide +kernel
theorem dX8_setLimit_30 : decode cX8_setLimit 30 = .ok (.invokevirtual 114, 3) := by decide +kernel
theorem dX8_setLimit_33 : decode cX8_setLimit 33 = .ok (.ireturn, 1) := by decide +kernel
theorem dX8_setLength_0 : decode cX8_setLength 0 = .ok (.iload_n 1, 1) := by decide +kernel
theorem dX8_setLength_1 : decode cX8_setLength 1 = .ok (.iconst 1, 1) := by decide +kernel
theorem dX8_setLength_2 : decode cX8_setLength 2 = .ok (.bipush 8, 2) := by decide +kernel
theorem dX8_setLength_4 : decode cX8_setLength 4 = .ok (.invokestatic 71, 3) := by decide +kernel
theorem dX8_setLength_7 : decode cX8_setLength 7 = .ok (.invokestatic 101, 3) := by decide +kernel
theorem dX8_setLength_10 : decode cX8_setLength 10 = .ok (.aload_n 0, 1) := by decide +kernel
theorem dX8_setLength_11 : decode cX8_setLength 11 = .ok (.getfield 16, 3) := by decide +kernel
theorem dX8_setLength_14 : decode cX8_setLength 14 = .ok (.aload_n 0, 1) := by decide +kernel
theorem dX8_setLength_15 : decode cX8_setLength 15 = .ok (.getfield 10, 3) := by decide +kernel
theorem dX8_setLength_18 : decode cX8_setLength 18 = .ok (.invokevirtual 82, 3) := by decide +kernel
theorem dX8_setLength_21 : decode cX8_setLength 21 = .ok (.aload_n 0, 1) := by decide +kernel
theorem dX8_setLength_22 : decode cX8_setLength 22 = .ok (.aload_n 0, 1) := by decide +kernel
theorem dX8_setLength_23 : decode cX8_setLength 23 = .ok (.getfield 16, 3) := by decide +kernel
theorem dX8_setLength_26 : decode cX8_setLength 26 = .ok (.iload_n 1, 1) := by decide +kernel
theorem dX8_setLength_27 : decode cX8_setLength 27 = .ok (.invokevirtual 117, 3) := by decide +kernel
theorem dX8_setLength_30 : decode cX8_setLength 30 = .ok (.invokevirtual 114, 3) := by decide +kernel
theorem dX8_setLength_33 : decode cX8_setLength 33 = .ok (.ireturn, 1) := by decide +kernel
theorem dX8_clear_0 : decode cX8_clear 0 = .ok (.aload_n 0, 1) := by decide +kernel
theorem dX8_clear_1 : decode cX8_clear 1 = .ok (.getfield 16, 3) := by decide +kernel
theorem dX8_clear_4 : decode cX8_clear 4 = .ok (.aload_n 0, 1) := by decide +kernel
theorem dX8_clear_5 : decode cX8_clear 5 = .ok (.getfield 10, 3) := by decide +kernel
theorem dX8_clear_8 : decode cX8_clear 8 = .ok (.invokevirtual 82, 3) := by decide +kernel
theorem dX8_clear_11 : decode cX8_clear 11 = .ok (.aload_n 0, 1) := by decide +kernel
theorem dX8_clear_12 : decode cX8_clear 12 = .ok (.aload_n 0, 1) := by decide +kernel
theorem dX8_clear_13 : decode cX8_clear 13 = .ok (.getfield 16, 3) := by decide +kernel
theorem dX8_clear_16 : decode cX8_clear 16 = .ok (.invokevirtual 120, 3) := by decide +kernel
theorem dX8_clear_19 : decode cX8_clear 19 = .ok (.invokevirtual 114, 3) := by decide +kernel
theorem dX8_clear_22 : decode cX8_clear 22 = .ok (.ireturn, 1) := by decide +kernel
theorem dX8_info_0 : decode cX8_info 0 = .ok (.iload_n 1, 1) := by decide +kernel
theorem dX8_info_1 : decode cX8_info 1 = .ok (.iconst 0, 1) := by decide +kernel
theorem dX8_info_2 : decode cX8_info 2 = .ok (.bipush 8, 2) := by decide +kernel
theorem dX8_info_4 : decode cX8_info 4 = .ok (.invokestatic 71, 3) := by decide +kernel
theorem dX8_info_7 : decode cX8_info 7 = .ok (.invokestatic 101, 3) := by decide +kernel
theorem dX8_info_10 : decode cX8_info 10 = .ok (.aload_n 0, 1) := by decide +kernel
theorem dX8_info_11 : decode cX8_info 11 = .ok (.getfield 10, 3) := by decide +kernel
theorem dX8_info_14 : decode cX8_info 14 = .ok (.iload_n 1, 1) := by decide +kernel
theorem dX8_info_15 : decode cX8_info 15 = .ok (.invokevirtual 123, 3) := by decide +kernel
theorem dX8_info_18 : decode cX8_info 18 = .ok (.ireturn, 1) := by decide +kernel
theorem dX8_slot_0 : decode cX8_slot 0 = .ok (.aload_n 0, 1) := by decide +kernel
theorem dX8_slot_1 : decode cX8_slot 1 = .ok (.iload_n 1, 1) := by decide +kernel
theorem dX8_slot_2 : decode cX8_slot 2 = .ok (.iload_n 2, 1) := by decide +kernel
theorem dX8_slot_3 : decode cX8_slot 3 = .ok (.invokevirtual 126, 3) := by decide +kernel
theorem dX8_slot_6 : decode cX8_slot 6 = .ok (.iload_n 3, 1) := by decide +kernel
theorem dX8_slot_7 : decode cX8_slot 7 = .ok (.iconst 0, 1) := by decide +kernel
theorem dX8_slot_8 : decode cX8_slot 8 = .ok (.iconst 3, 1) := by decide +kernel
theorem dX8_slot_9 : decode cX8_slot 9 = .ok (.invokestatic 71, 3) := by decide +kernel
theorem dX8_slot_12 : decode cX8_slot 12 = .ok (.invokestatic 101, 3) := by decide +kernel
theorem dX8_slot_15 : decode cX8_slot 15 = .ok (.aload_n 0, 1) := by decide +kernel
theorem dX8_slot_16 : decode cX8_slot 16 = .ok (.getfield 10, 3) := by decide +kernel
theorem dX8_slot_19 : decode cX8_slot 19 = .ok (.iload_n 1, 1) := by decide +kernel
theorem dX8_slot_20 : decode cX8_slot 20 = .ok (.iload_n 2, 1) := by decide +kernel
theorem dX8_slot_21 : decode cX8_slot 21 = .ok (.iload_n 3, 1) := by decide +kernel
theorem dX8_slot_22 : decode cX8_slot 22 = .ok (.invokevirtual 130, 3) := by decide +kernel
theorem dX8_slot_25 : decode cX8_slot 25 = .ok (.ireturn, 1) := by decide +kernel
theorem dX8_stashed_0 : decode cX8_stashed 0 = .ok (.iload_n 1, 1) := by decide +kernel
theorem dX8_stashed_1 : decode cX8_stashed 1 = .ok (.iconst 0, 1) := by decide +kernel
theorem dX8_stashed_2 : decode cX8_stashed 2 = .ok (.aload_n 0, 1) := by decide +kernel
theorem dX8_stashed_3 : decode cX8_stashed 3 = .ok (.getfield 10, 3) := by decide +kernel
theorem dX8_stashed_6 : decode cX8_stashed 6 = .ok (.invokevirtual 108, 3) := by decide +kernel
theorem dX8_stashed_9 : decode cX8_stashed 9 = .ok (.iconst 1, 1) := by decide +kernel
theorem dX8_stashed_10 : decode cX8_stashed 10 = .ok (.isub, 1) := by decide +kernel
theorem dX8_stashed_11 : decode cX8_stashed 11 = .ok (.invokestatic 71, 3) := by decide +kernel
theorem dX8_stashed_14 : decode cX8_stashed 14 = .ok (.invokestatic 75, 3) := by decide +kernel
theorem dX8_stashed_17 : decode cX8_stashed 17 = .ok (.iload_n 2, 1) := by decide +kernel
theorem dX8_stashed_18 : decode cX8_stashed 18 = .ok (.iconst 0, 1) := by decide +kernel
theorem dX8_stashed_19 : decode cX8_stashed 19 = .ok (.iconst 3, 1) := by decide +kernel
theorem dX8_stashed_20 : decode cX8_stashed 20 = .ok (.invokestatic 71, 3) := by decide +kernel
theorem dX8_stashed_23 : decode cX8_stashed 23 = .ok (.invokestatic 101, 3) := by decide +kernel
theorem dX8_stashed_26 : decode cX8_stashed 26 = .ok (.aload_n 0, 1) := by decide +kernel
theorem dX8_stashed_27 : decode cX8_stashed 27 = .ok (.getfield 10, 3) := by decide +kernel
theorem dX8_stashed_30 : decode cX8_stashed 30 = .ok (.iload_n 1, 1) := by decide +kernel
theorem dX8_stashed_31 : decode cX8_stashed 31 = .ok (.iload_n 2, 1) := by decide +kernel
theorem dX8_stashed_32 : decode cX8_stashed 32 = .ok (.invokevirtual 134, 3) := by decide +kernel
theorem dX8_stashed_35 : decode cX8_stashed 35 = .ok (.ireturn, 1) := by decide +kernel
theorem dX8_filled_0 : decode cX8_filled 0 = .ok (.iload_n 1, 1) := by decide +kernel
theorem dX8_filled_1 : decode cX8_filled 1 = .ok (.iconst 0, 1) := by decide +kernel
theorem dX8_filled_2 : decode cX8_filled 2 = .ok (.iconst 4, 1) := by decide +kernel
theorem dX8_filled_3 : decode cX8_filled 3 = .ok (.invokestatic 71, 3) := by decide +kernel
theorem dX8_filled_6 : decode cX8_filled 6 = .ok (.invokestatic 101, 3) := by decide +kernel
theorem dX8_filled_9 : decode cX8_filled 9 = .ok (.aload_n 0, 1) := by decide +kernel
theorem dX8_filled_10 : decode cX8_filled 10 = .ok (.getfield 10, 3) := by decide +kernel
theorem dX8_filled_13 : decode cX8_filled 13 = .ok (.iload_n 1, 1) := by decide +kernel
theorem dX8_filled_14 : decode cX8_filled 14 = .ok (.invokevirtual 138, 3) := by decide +kernel
theorem dX8_filled_17 : decode cX8_filled 17 = .ok (.ireturn, 1) := by decide +kernel
theorem dX8_walk_0 : decode cX8_walk 0 = .ok (.iload_n 1, 1) := by decide +kernel
theorem dX8_walk_1 : decode cX8_walk 1 = .ok (.invokestatic 33, 3) := by decide +kernel
theorem dX8_walk_4 : decode cX8_walk 4 = .ok (.aload_n 0, 1) := by decide +kernel
theorem dX8_walk_5 : decode cX8_walk 5 = .ok (.getfield 16, 3) := by decide +kernel
theorem dX8_walk_8 : decode cX8_walk 8 = .ok (.aload_n 0, 1) := by decide +kernel
theorem dX8_walk_9 : decode cX8_walk 9 = .ok (.getfield 10, 3) := by decide +kernel
theorem dX8_walk_12 : decode cX8_walk 12 = .ok (.invokevirtual 82, 3) := by decide +kernel
theorem dX8_walk_15 : decode cX8_walk 15 = .ok (.aload_n 0, 1) := by decide +kernel
theorem dX8_walk_16 : decode cX8_walk 16 = .ok (.getfield 16, 3) := by decide +kernel
theorem dX8_walk_19 : decode cX8_walk 19 = .ok (.iload_n 1, 1) := by decide +kernel
theorem dX8_walk_20 : decode cX8_walk 20 = .ok (.invokevirtual 141, 3) := by decide +kernel
theorem dX8_walk_23 : decode cX8_walk 23 = .ok (.ireturn, 1) := by decide +kernel
theorem dX8_walkStep_0 : decode cX8_walkStep 0 = .ok (.iload_n 1, 1) := by decide +kernel
theorem dX8_walkStep_1 : decode cX8_walkStep 1 = .ok (.invokestatic 33, 3) := by decide +kernel
theorem dX8_walkStep_4 : decode cX8_walkStep 4 = .ok (.aload_n 0, 1) := by decide +kernel
theorem dX8_walkStep_5 : decode cX8_walkStep 5 = .ok (.getfield 16, 3) := by decide +kernel
theorem dX8_walkStep_8 : decode cX8_walkStep 8 = .ok (.aload_n 0, 1) := by decide +kernel
theorem dX8_walkStep_9 : decode cX8_walkStep 9 = .ok (.getfield 10, 3) := by decide +kernel
theorem dX8_walkStep_12 : decode cX8_walkStep 12 = .ok (.invokevirtual 82, 3) := by decide +kernel
theorem dX8_walkStep_15 : decode cX8_walkStep 15 = .ok (.aload_n 0, 1) := by decide +kernel
theorem dX8_walkStep_16 : decode cX8_walkStep 16 = .ok (.getfield 16, 3) := by decide +kernel
theorem dX8_walkStep_19 : decode cX8_walkStep 19 = .ok (.iload_n 1, 1) := by decide +kernel
theorem dX8_walkStep_20 : decode cX8_walkStep 20 = .ok (.invokevirtual 141, 3) := by decide +kernel
theorem dX8_walkStep_23 : decode cX8_walkStep 23 = .ok (.pop, 1) := by decide +kernel
theorem dX8_walkStep_24 : decode cX8_walkStep 24 = .ok (.iload_n 3, 1) := by decide +kernel
theorem dX8_walkStep_25 : decode cX8_walkStep 25 = .ok (.ifCond .eq 17, 3) := by decide +kernel
theorem dX8_walkStep_28 : decode cX8_walkStep 28 = .ok (.aload_n 0, 1) := by decide +kernel
theorem dX8_walkStep_29 : decode cX8_walkStep 29 = .ok (.getfield 16, 3) := by decide +kernel
theorem dX8_walkStep_32 : decode cX8_walkStep 32 = .ok (.invokevirtual 144, 3) := by decide +kernel
theorem dX8_walkStep_35 : decode cX8_walkStep 35 = .ok (.iload_n 2, 1) := by decide +kernel
theorem dX8_walkStep_36 : decode cX8_walkStep 36 = .ok (.invokevirtual 148, 3) := by decide +kernel
theorem dX8_walkStep_39 : decode cX8_walkStep 39 = .ok (.goto 14, 3) := by decide +kernel
theorem dX8_walkStep_42 : decode cX8_walkStep 42 = .ok (.aload_n 0, 1) := by decide +kernel
theorem dX8_walkStep_43 : decode cX8_walkStep 43 = .ok (.getfield 16, 3) := by decide +kernel
theorem dX8_walkStep_46 : decode cX8_walkStep 46 = .ok (.invokevirtual 144, 3) := by decide +kernel
theorem dX8_walkStep_49 : decode cX8_walkStep 49 = .ok (.iload_n 2, 1) := by decide +kernel
theorem dX8_walkStep_50 : decode cX8_walkStep 50 = .ok (.invokevirtual 153, 3) := by decide +kernel
theorem dX8_walkStep_53 : decode cX8_walkStep 53 = .ok (.ireturn, 1) := by decide +kernel
theorem dX8_leastMoves_0 : decode cX8_leastMoves 0 = .ok (.iload_n 1, 1) := by decide +kernel
theorem dX8_leastMoves_1 : decode cX8_leastMoves 1 = .ok (.invokestatic 33, 3) := by decide +kernel
theorem dX8_leastMoves_4 : decode cX8_leastMoves 4 = .ok (.aload_n 0, 1) := by decide +kernel
theorem dX8_leastMoves_5 : decode cX8_leastMoves 5 = .ok (.getfield 16, 3) := by decide +kernel
theorem dX8_leastMoves_8 : decode cX8_leastMoves 8 = .ok (.aload_n 0, 1) := by decide +kernel
theorem dX8_leastMoves_9 : decode cX8_leastMoves 9 = .ok (.getfield 10, 3) := by decide +kernel
theorem dX8_leastMoves_12 : decode cX8_leastMoves 12 = .ok (.invokevirtual 82, 3) := by decide +kernel
theorem dX8_leastMoves_15 : decode cX8_leastMoves 15 = .ok (.aload_n 0, 1) := by decide +kernel
theorem dX8_leastMoves_16 : decode cX8_leastMoves 16 = .ok (.getfield 16, 3) := by decide +kernel
theorem dX8_leastMoves_19 : decode cX8_leastMoves 19 = .ok (.iload_n 1, 1) := by decide +kernel
theorem dX8_leastMoves_20 : decode cX8_leastMoves 20 = .ok (.invokevirtual 156, 3) := by decide +kernel
theorem dX8_leastMoves_23 : decode cX8_leastMoves 23 = .ok (.ireturn, 1) := by decide +kernel
theorem dX8_roomFor_0 : decode cX8_roomFor 0 = .ok (.iload_n 1, 1) := by decide +kernel
theorem dX8_roomFor_1 : decode cX8_roomFor 1 = .ok (.iload_n 2, 1) := by decide +kernel
theorem dX8_roomFor_2 : decode cX8_roomFor 2 = .ok (.invokestatic 159, 3) := by decide +kernel
theorem dX8_roomFor_5 : decode cX8_roomFor 5 = .ok (.aload_n 0, 1) := by decide +kernel
theorem dX8_roomFor_6 : decode cX8_roomFor 6 = .ok (.getfield 16, 3) := by decide +kernel
theorem dX8_roomFor_9 : decode cX8_roomFor 9 = .ok (.aload_n 0, 1) := by decide +kernel
theorem dX8_roomFor_10 : decode cX8_roomFor 10 = .ok (.getfield 10, 3) := by decide +kernel
theorem dX8_roomFor_13 : decode cX8_roomFor 13 = .ok (.invokevirtual 82, 3) := by decide +kernel
theorem dX8_roomFor_16 : decode cX8_roomFor 16 = .ok (.iconst 0, 1) := by decide +kernel
theorem dX8_roomFor_17 : decode cX8_roomFor 17 = .ok (.istore_n 3, 1) := by decide +kernel
theorem dX8_roomFor_18 : decode cX8_roomFor 18 = .ok (.iload_n 1, 1) := by decide +kernel
theorem dX8_roomFor_19 : decode cX8_roomFor 19 = .ok (.istore 4, 2) := by decide +kernel
theorem dX8_roomFor_21 : decode cX8_roomFor 21 = .ok (.iload 4, 2) := by decide +kernel
theorem dX8_roomFor_23 : decode cX8_roomFor 23 = .ok (.iload_n 2, 1) := by decide +kernel
theorem dX8_roomFor_24 : decode cX8_roomFor 24 = .ok (.if_icmp .gt 39, 3) := by decide +kernel
theorem dX8_roomFor_27 : decode cX8_roomFor 27 = .ok (.aload_n 0, 1) := by decide +kernel
theorem dX8_roomFor_28 : decode cX8_roomFor 28 = .ok (.getfield 16, 3) := by decide +kernel
theorem dX8_roomFor_31 : decode cX8_roomFor 31 = .ok (.iload 4, 2) := by decide +kernel
theorem dX8_roomFor_33 : decode cX8_roomFor 33 = .ok (.invokevirtual 162, 3) := by decide +kernel
theorem dX8_roomFor_36 : decode cX8_roomFor 36 = .ok (.ifCond .ne 21, 3) := by decide +kernel
theorem dX8_roomFor_39 : decode cX8_roomFor 39 = .ok (.aload_n 0, 1) := by decide +kernel
theorem dX8_roomFor_40 : decode cX8_roomFor 40 = .ok (.getfield 16, 3) := by decide +kernel
theorem dX8_roomFor_43 : decode cX8_roomFor 43 = .ok (.iload 4, 2) := by decide +kernel
theorem dX8_roomFor_45 : decode cX8_roomFor 45 = .ok (.invokevirtual 86, 3) := by decide +kernel
theorem dX8_roomFor_48 : decode cX8_roomFor 48 = .ok (.iconst (-1), 1) := by decide +kernel
theorem dX8_roomFor_49 : decode cX8_roomFor 49 = .ok (.if_icmp .ne 5, 3) := by decide +kernel
theorem dX8_roomFor_52 : decode cX8_roomFor 52 = .ok (.iload_n 3, 1) := by decide +kernel
theorem dX8_roomFor_53 : decode cX8_roomFor 53 = .ok (.ireturn, 1) := by decide +kernel
theorem dX8_roomFor_54 : decode cX8_roomFor 54 = .ok (.iinc 3 1, 3) := by decide +kernel
theorem dX8_roomFor_57 : decode cX8_roomFor 57 = .ok (.iinc 4 1, 3) := by decide +kernel
theorem dX8_roomFor_60 : decode cX8_roomFor 60 = .ok (.goto (-39), 3) := by decide +kernel
theorem dX8_roomFor_63 : decode cX8_roomFor 63 = .ok (.iload_n 3, 1) := by decide +kernel
theorem dX8_roomFor_64 : decode cX8_roomFor 64 = .ok (.ireturn, 1) := by decide +kernel
theorem dX8_falseKeys_0 : decode cX8_falseKeys 0 = .ok (.iload_n 1, 1) := by decide +kernel
theorem dX8_falseKeys_1 : decode cX8_falseKeys 1 = .ok (.iload_n 2, 1) := by decide +kernel
theorem dX8_falseKeys_2 : decode cX8_falseKeys 2 = .ok (.invokestatic 159, 3) := by decide +kernel
theorem dX8_falseKeys_5 : decode cX8_falseKeys 5 = .ok (.aload_n 0, 1) := by decide +kernel
theorem dX8_falseKeys_6 : decode cX8_falseKeys 6 = .ok (.getfield 10, 3) := by decide +kernel
theorem dX8_falseKeys_9 : decode cX8_falseKeys 9 = .ok (.iload_n 1, 1) := by decide +kernel
theorem dX8_falseKeys_10 : decode cX8_falseKeys 10 = .ok (.iload_n 2, 1) := by decide +kernel
theorem dX8_falseKeys_11 : decode cX8_falseKeys 11 = .ok (.invokevirtual 165, 3) := by decide +kernel
theorem dX8_falseKeys_14 : decode cX8_falseKeys 14 = .ok (.ireturn, 1) := by decide +kernel
theorem dX8_falseKey_0 : decode cX8_falseKey 0 = .ok (.iconst 0, 1) := by decide +kernel
theorem dX8_falseKey_1 : decode cX8_falseKey 1 = .ok (.istore_n 2, 1) := by decide +kernel
theorem dX8_falseKey_2 : decode cX8_falseKey 2 = .ok (.iconst 0, 1) := by decide +kernel
theorem dX8_falseKey_3 : decode cX8_falseKey 3 = .ok (.istore_n 3, 1) := by decide +kernel
theorem dX8_falseKey_4 : decode cX8_falseKey 4 = .ok (.iload_n 3, 1) := by decide +kernel
theorem dX8_falseKey_5 : decode cX8_falseKey 5 = .ok (.sipush 1000, 3) := by decide +kernel
theorem dX8_falseKey_8 : decode cX8_falseKey 8 = .ok (.if_icmp .ge 30, 3) := by decide +kernel
theorem dX8_falseKey_11 : decode cX8_falseKey 11 = .ok (.aload_n 0, 1) := by decide +kernel
theorem dX8_falseKey_12 : decode cX8_falseKey 12 = .ok (.getfield 10, 3) := by decide +kernel
theorem dX8_falseKey_15 : decode cX8_falseKey 15 = .ok (.iload_n 3, 1) := by decide +kernel
theorem dX8_falseKey_16 : decode cX8_falseKey 16 = .ok (.invokevirtual 168, 3) := by decide +kernel
theorem dX8_falseKey_19 : decode cX8_falseKey 19 = .ok (.ifCond .eq 13, 3) := by decide +kernel
theorem dX8_falseKey_22 : decode cX8_falseKey 22 = .ok (.iload_n 2, 1) := by decide +kernel
theorem dX8_falseKey_23 : decode cX8_falseKey 23 = .ok (.iload_n 1, 1) := by decide +kernel
theorem dX8_falseKey_24 : decode cX8_falseKey 24 = .ok (.if_icmp .ne 5, 3) := by decide +kernel
theorem dX8_falseKey_27 : decode cX8_falseKey 27 = .ok (.iload_n 3, 1) := by decide +kernel
theorem dX8_falseKey_28 : decode cX8_falseKey 28 = .ok (.ireturn, 1) := by decide +kernel
theorem dX8_falseKey_29 : decode cX8_falseKey 29 = .ok (.iinc 2 1, 3) := by decide +kernel
theorem dX8_falseKey_32 : decode cX8_falseKey 32 = .ok (.iinc 3 1, 3) := by decide +kernel
theorem dX8_falseKey_35 : decode cX8_falseKey 35 = .ok (.goto (-31), 3) := by decide +kernel
theorem dX8_falseKey_38 : decode cX8_falseKey 38 = .ok (.iconst (-1), 1) := by decide +kernel
theorem dX8_falseKey_39 : decode cX8_falseKey 39 = .ok (.ireturn, 1) := by decide +kernel
theorem dX8_blamed_0 : decode cX8_blamed 0 = .ok (.aload_n 0, 1) := by decide +kernel
theorem dX8_blamed_1 : decode cX8_blamed 1 = .ok (.iload_n 1, 1) := by decide +kernel
theorem dX8_blamed_2 : decode cX8_blamed 2 = .ok (.iload_n 2, 1) := by decide +kernel
theorem dX8_blamed_3 : decode cX8_blamed 3 = .ok (.invokevirtual 126, 3) := by decide +kernel
theorem dX8_blamed_6 : decode cX8_blamed 6 = .ok (.aload_n 0, 1) := by decide +kernel
theorem dX8_blamed_7 : decode cX8_blamed 7 = .ok (.getfield 16, 3) := by decide +kernel
theorem dX8_blamed_10 : decode cX8_blamed 10 = .ok (.aload_n 0, 1) := by decide +kernel
theorem dX8_blamed_11 : decode cX8_blamed 11 = .ok (.getfield 10, 3) := by decide +kernel
theorem dX8_blamed_14 : decode cX8_blamed 14 = .ok (.invokevirtual 82, 3) := by decide +kernel
theorem dX8_blamed_17 : decode cX8_blamed 17 = .ok (.aload_n 0, 1) := by decide +kernel
theorem dX8_blamed_18 : decode cX8_blamed 18 = .ok (.getfield 16, 3) := by decide +kernel
theorem dX8_blamed_21 : decode cX8_blamed 21 = .ok (.iload_n 1, 1) := by decide +kernel
theorem dX8_blamed_22 : decode cX8_blamed 22 = .ok (.iload_n 2, 1) := by decide +kernel
theorem dX8_blamed_23 : decode cX8_blamed 23 = .ok (.invokevirtual 171, 3) := by decide +kernel
theorem dX8_blamed_26 : decode cX8_blamed 26 = .ok (.iconst 0, 1) := by decide +kernel
theorem dX8_blamed_27 : decode cX8_blamed 27 = .ok (.istore_n 3, 1) := by decide +kernel
theorem dX8_blamed_28 : decode cX8_blamed 28 = .ok (.iconst 0, 1) := by decide +kernel
theorem dX8_blamed_29 : decode cX8_blamed 29 = .ok (.istore 4, 2) := by decide +kernel
theorem dX8_blamed_31 : decode cX8_blamed 31 = .ok (.iload 4, 2) := by decide +kernel
theorem dX8_blamed_33 : decode cX8_blamed 33 = .ok (.sipush 1000, 3) := by decide +kernel
theorem dX8_blamed_36 : decode cX8_blamed 36 = .ok (.if_icmp .ge 36, 3) := by decide +kernel
theorem dX8_blamed_39 : decode cX8_blamed 39 = .ok (.aload_n 0, 1) := by decide +kernel
theorem dX8_blamed_40 : decode cX8_blamed 40 = .ok (.getfield 10, 3) := by decide +kernel
theorem dX8_blamed_43 : decode cX8_blamed 43 = .ok (.iload 4, 2) := by decide +kernel
theorem dX8_blamed_45 : decode cX8_blamed 45 = .ok (.invokevirtual 168, 3) := by decide +kernel
theorem dX8_blamed_48 : decode cX8_blamed 48 = .ok (.ifCond .eq 18, 3) := by decide +kernel
theorem dX8_blamed_51 : decode cX8_blamed 51 = .ok (.aload_n 0, 1) := by decide +kernel
theorem dX8_blamed_52 : decode cX8_blamed 52 = .ok (.getfield 16, 3) := by decide +kernel
theorem dX8_blamed_55 : decode cX8_blamed 55 = .ok (.iload 4, 2) := by decide +kernel
theorem dX8_blamed_57 : decode cX8_blamed 57 = .ok (.invokevirtual 60, 3) := by decide +kernel
theorem dX8_blamed_60 : decode cX8_blamed 60 = .ok (.ifCond .ne 6, 3) := by decide +kernel
theorem dX8_blamed_63 : decode cX8_blamed 63 = .ok (.iinc 3 1, 3) := by decide +kernel
theorem dX8_blamed_66 : decode cX8_blamed 66 = .ok (.iinc 4 1, 3) := by decide +kernel
theorem dX8_blamed_69 : decode cX8_blamed 69 = .ok (.goto (-38), 3) := by decide +kernel
theorem dX8_blamed_72 : decode cX8_blamed 72 = .ok (.iload_n 3, 1) := by decide +kernel
theorem dX8_blamed_73 : decode cX8_blamed 73 = .ok (.ireturn, 1) := by decide +kernel
theorem dX8_twins_0 : decode cX8_twins 0 = .ok (.aload_n 0, 1) := by decide +kernel
theorem dX8_twins_1 : decode cX8_twins 1 = .ok (.getfield 10, 3) := by decide +kernel
theorem dX8_twins_4 : decode cX8_twins 4 = .ok (.invokevirtual 174, 3) := by decide +kernel
theorem dX8_twins_7 : decode cX8_twins 7 = .ok (.ireturn, 1) := by decide +kernel
theorem dX8_bestSeed_0 : decode cX8_bestSeed 0 = .ok (.iload_n 1, 1) := by decide +kernel
theorem dX8_bestSeed_1 : decode cX8_bestSeed 1 = .ok (.iconst 1, 1) := by decide +kernel
theorem dX8_bestSeed_2 : decode cX8_bestSeed 2 = .ok (.bipush 20, 2) := by decide +kernel
theorem dX8_bestSeed_4 : decode cX8_bestSeed 4 = .ok (.invokestatic 71, 3) := by decide +kernel
theorem dX8_bestSeed_7 : decode cX8_bestSeed 7 = .ok (.invokestatic 101, 3) := by decide +kernel
theorem dX8_bestSeed_10 : decode cX8_bestSeed 10 = .ok (.aload_n 0, 1) := by decide +kernel
theorem dX8_bestSeed_11 : decode cX8_bestSeed 11 = .ok (.getfield 16, 3) := by decide +kernel
theorem dX8_bestSeed_14 : decode cX8_bestSeed 14 = .ok (.aload_n 0, 1) := by decide +kernel
theorem dX8_bestSeed_15 : decode cX8_bestSeed 15 = .ok (.getfield 10, 3) := by decide +kernel
theorem dX8_bestSeed_18 : decode cX8_bestSeed 18 = .ok (.invokevirtual 82, 3) := by decide +kernel
theorem dX8_bestSeed_21 : decode cX8_bestSeed 21 = .ok (.iconst (-1), 1) := by decide +kernel
theorem dX8_bestSeed_22 : decode cX8_bestSeed 22 = .ok (.istore_n 2, 1) := by decide +kernel
theorem dX8_bestSeed_23 : decode cX8_bestSeed 23 = .ok (.sipush 1001, 3) := by decide +kernel
theorem dX8_bestSeed_26 : decode cX8_bestSeed 26 = .ok (.istore_n 3, 1) := by decide +kernel
theorem dX8_bestSeed_27 : decode cX8_bestSeed 27 = .ok (.iconst 0, 1) := by decide +kernel
theorem dX8_bestSeed_28 : decode cX8_bestSeed 28 = .ok (.istore 4, 2) := by decide +kernel
theorem dX8_bestSeed_30 : decode cX8_bestSeed 30 = .ok (.iload 4, 2) := by decide +kernel
theorem dX8_bestSeed_32 : decode cX8_bestSeed 32 = .ok (.iload_n 1, 1) := by decide +kernel
theorem dX8_bestSeed_33 : decode cX8_bestSeed 33 = .ok (.if_icmp .ge 46, 3) := by decide +kernel
theorem dX8_bestSeed_36 : decode cX8_bestSeed 36 = .ok (.aload_n 0, 1) := by decide +kernel
theorem dX8_bestSeed_37 : decode cX8_bestSeed 37 = .ok (.getfield 16, 3) := by decide +kernel
theorem dX8_bestSeed_40 : decode cX8_bestSeed 40 = .ok (.iload 4, 2) := by decide +kernel
theorem dX8_bestSeed_42 : decode cX8_bestSeed 42 = .ok (.invokevirtual 177, 3) := by decide +kernel
theorem dX8_bestSeed_45 : decode cX8_bestSeed 45 = .ok (.ifCond .eq 28, 3) := by decide +kernel
theorem dX8_bestSeed_48 : decode cX8_bestSeed 48 = .ok (.aload_n 0, 1) := by decide +kernel
theorem dX8_bestSeed_49 : decode cX8_bestSeed 49 = .ok (.getfield 16, 3) := by decide +kernel
theorem dX8_bestSeed_52 : decode cX8_bestSeed 52 = .ok (.iconst 0, 1) := by decide +kernel
theorem dX8_bestSeed_53 : decode cX8_bestSeed 53 = .ok (.sipush 999, 3) := by decide +kernel
theorem dX8_bestSeed_56 : decode cX8_bestSeed 56 = .ok (.invokevirtual 165, 3) := by decide +kernel
theorem dX8_bestSeed_59 : decode cX8_bestSeed 59 = .ok (.istore 5, 2) := by decide +kernel
theorem dX8_bestSeed_61 : decode cX8_bestSeed 61 = .ok (.iload 5, 2) := by decide +kernel
theorem dX8_bestSeed_63 : decode cX8_bestSeed 63 = .ok (.iload_n 3, 1) := by decide +kernel
theorem dX8_bestSeed_64 : decode cX8_bestSeed 64 = .ok (.if_icmp .ge 9, 3) := by decide +kernel
theorem dX8_bestSeed_67 : decode cX8_bestSeed 67 = .ok (.iload 5, 2) := by decide +kernel
theorem dX8_bestSeed_69 : decode cX8_bestSeed 69 = .ok (.istore_n 3, 1) := by decide +kernel
theorem dX8_bestSeed_70 : decode cX8_bestSeed 70 = .ok (.iload 4, 2) := by decide +kernel
theorem dX8_bestSeed_72 : decode cX8_bestSeed 72 = .ok (.istore_n 2, 1) := by decide +kernel
theorem dX8_bestSeed_73 : decode cX8_bestSeed 73 = .ok (.iinc 4 1, 3) := by decide +kernel
theorem dX8_bestSeed_76 : decode cX8_bestSeed 76 = .ok (.goto (-46), 3) := by decide +kernel
theorem dX8_bestSeed_79 : decode cX8_bestSeed 79 = .ok (.iload_n 2, 1) := by decide +kernel
theorem dX8_bestSeed_80 : decode cX8_bestSeed 80 = .ok (.ireturn, 1) := by decide +kernel
theorem dX8_leastBits_0 : decode cX8_leastBits 0 = .ok (.iload_n 1, 1) := by decide +kernel
theorem dX8_leastBits_1 : decode cX8_leastBits 1 = .ok (.iconst 1, 1) := by decide +kernel
theorem dX8_leastBits_2 : decode cX8_leastBits 2 = .ok (.iconst 4, 1) := by decide +kernel
theorem dX8_leastBits_3 : decode cX8_leastBits 3 = .ok (.invokestatic 71, 3) := by decide +kernel
theorem dX8_leastBits_6 : decode cX8_leastBits 6 = .ok (.invokestatic 101, 3) := by decide +kernel
theorem dX8_leastBits_9 : decode cX8_leastBits 9 = .ok (.iload_n 2, 1) := by decide +kernel
theorem dX8_leastBits_10 : decode cX8_leastBits 10 = .ok (.iconst 1, 1) := by decide +kernel
theorem dX8_leastBits_11 : decode cX8_leastBits 11 = .ok (.bipush 8, 2) := by decide +kernel
theorem dX8_leastBits_13 : decode cX8_leastBits 13 = .ok (.invokestatic 71, 3) := by decide +kernel
theorem dX8_leastBits_16 : decode cX8_leastBits 16 = .ok (.invokestatic 101, 3) := by decide +kernel
theorem dX8_leastBits_19 : decode cX8_leastBits 19 = .ok (.aload_n 0, 1) := by decide +kernel
theorem dX8_leastBits_20 : decode cX8_leastBits 20 = .ok (.getfield 16, 3) := by decide +kernel
theorem dX8_leastBits_23 : decode cX8_leastBits 23 = .ok (.aload_n 0, 1) := by decide +kernel
theorem dX8_leastBits_24 : decode cX8_leastBits 24 = .ok (.getfield 10, 3) := by decide +kernel
theorem dX8_leastBits_27 : decode cX8_leastBits 27 = .ok (.invokevirtual 82, 3) := by decide +kernel
theorem dX8_leastBits_30 : decode cX8_leastBits 30 = .ok (.iconst 1, 1) := by decide +kernel
theorem dX8_leastBits_31 : decode cX8_leastBits 31 = .ok (.istore_n 3, 1) := by decide +kernel
theorem dX8_leastBits_32 : decode cX8_leastBits 32 = .ok (.iload_n 3, 1) := by decide +kernel
theorem dX8_leastBits_33 : decode cX8_leastBits 33 = .ok (.bipush 6, 2) := by decide +kernel
theorem dX8_leastBits_35 : decode cX8_leastBits 35 = .ok (.if_icmp .gt 24, 3) := by decide +kernel
theorem dX8_leastBits_38 : decode cX8_leastBits 38 = .ok (.aload_n 0, 1) := by decide +kernel
theorem dX8_leastBits_39 : decode cX8_leastBits 39 = .ok (.getfield 16, 3) := by decide +kernel
theorem dX8_leastBits_42 : decode cX8_leastBits 42 = .ok (.iload_n 3, 1) := by decide +kernel
theorem dX8_leastBits_43 : decode cX8_leastBits 43 = .ok (.iload_n 1, 1) := by decide +kernel
theorem dX8_leastBits_44 : decode cX8_leastBits 44 = .ok (.iload_n 2, 1) := by decide +kernel
theorem dX8_leastBits_45 : decode cX8_leastBits 45 = .ok (.invokevirtual 180, 3) := by decide +kernel
theorem dX8_leastBits_48 : decode cX8_leastBits 48 = .ok (.ifCond .eq 5, 3) := by decide +kernel
theorem dX8_leastBits_51 : decode cX8_leastBits 51 = .ok (.iload_n 3, 1) := by decide +kernel
theorem dX8_leastBits_52 : decode cX8_leastBits 52 = .ok (.ireturn, 1) := by decide +kernel
theorem dX8_leastBits_53 : decode cX8_leastBits 53 = .ok (.iinc 3 1, 3) := by decide +kernel
theorem dX8_leastBits_56 : decode cX8_leastBits 56 = .ok (.goto (-24), 3) := by decide +kernel
theorem dX8_leastBits_59 : decode cX8_leastBits 59 = .ok (.iconst (-1), 1) := by decide +kernel
theorem dX8_leastBits_60 : decode cX8_leastBits 60 = .ok (.ireturn, 1) := by decide +kernel
theorem dX8_couldFit_0 : decode cX8_couldFit 0 = .ok (.iload_n 1, 1) := by decide +kernel
theorem dX8_couldFit_1 : decode cX8_couldFit 1 = .ok (.iconst 1, 1) := by decide +kernel
theorem dX8_couldFit_2 : decode cX8_couldFit 2 = .ok (.bipush 6, 2) := by decide +kernel
theorem dX8_couldFit_4 : decode cX8_couldFit 4 = .ok (.invokestatic 71, 3) := by decide +kernel
theorem dX8_couldFit_7 : decode cX8_couldFit 7 = .ok (.invokestatic 101, 3) := by decide +kernel
theorem dX8_couldFit_10 : decode cX8_couldFit 10 = .ok (.iload_n 2, 1) := by decide +kernel
theorem dX8_couldFit_11 : decode cX8_couldFit 11 = .ok (.iconst 1, 1) := by decide +kernel
theorem dX8_couldFit_12 : decode cX8_couldFit 12 = .ok (.iconst 4, 1) := by decide +kernel
theorem dX8_couldFit_13 : decode cX8_couldFit 13 = .ok (.invokestatic 71, 3) := by decide +kernel
theorem dX8_couldFit_16 : decode cX8_couldFit 16 = .ok (.invokestatic 101, 3) := by decide +kernel
theorem dX8_couldFit_19 : decode cX8_couldFit 19 = .ok (.iload_n 3, 1) := by decide +kernel
theorem dX8_couldFit_20 : decode cX8_couldFit 20 = .ok (.iconst 0, 1) := by decide +kernel
theorem dX8_couldFit_21 : decode cX8_couldFit 21 = .ok (.bipush 99, 2) := by decide +kernel
theorem dX8_couldFit_23 : decode cX8_couldFit 23 = .ok (.invokestatic 71, 3) := by decide +kernel
theorem dX8_couldFit_26 : decode cX8_couldFit 26 = .ok (.invokestatic 101, 3) := by decide +kernel
theorem dX8_couldFit_29 : decode cX8_couldFit 29 = .ok (.aload_n 0, 1) := by decide +kernel
theorem dX8_couldFit_30 : decode cX8_couldFit 30 = .ok (.getfield 16, 3) := by decide +kernel
theorem dX8_couldFit_33 : decode cX8_couldFit 33 = .ok (.aload_n 0, 1) := by decide +kernel
theorem dX8_couldFit_34 : decode cX8_couldFit 34 = .ok (.getfield 10, 3) := by decide +kernel
theorem dX8_couldFit_37 : decode cX8_couldFit 37 = .ok (.invokevirtual 82, 3) := by decide +kernel
theorem dX8_couldFit_40 : decode cX8_couldFit 40 = .ok (.aload_n 0, 1) := by decide +kernel
theorem dX8_couldFit_41 : decode cX8_couldFit 41 = .ok (.getfield 16, 3) := by decide +kernel
theorem dX8_couldFit_44 : decode cX8_couldFit 44 = .ok (.iload_n 1, 1) := by decide +kernel
theorem dX8_couldFit_45 : decode cX8_couldFit 45 = .ok (.iload_n 2, 1) := by decide +kernel
theorem dX8_couldFit_46 : decode cX8_couldFit 46 = .ok (.iload_n 3, 1) := by decide +kernel
theorem dX8_couldFit_47 : decode cX8_couldFit 47 = .ok (.invokevirtual 183, 3) := by decide +kernel
theorem dX8_couldFit_50 : decode cX8_couldFit 50 = .ok (.ireturn, 1) := by decide +kernel
theorem dX8_rateBits_0 : decode cX8_rateBits 0 = .ok (.sipush 1000, 3) := by decide +kernel
theorem dX8_rateBits_3 : decode cX8_rateBits 3 = .ok (.aload_n 0, 1) := by decide +kernel
theorem dX8_rateBits_4 : decode cX8_rateBits 4 = .ok (.getfield 10, 3) := by decide +kernel
theorem dX8_rateBits_7 : decode cX8_rateBits 7 = .ok (.invokevirtual 67, 3) := by decide +kernel
theorem dX8_rateBits_10 : decode cX8_rateBits 10 = .ok (.isub, 1) := by decide +kernel
theorem dX8_rateBits_11 : decode cX8_rateBits 11 = .ok (.istore_n 1, 1) := by decide +kernel
theorem dX8_rateBits_12 : decode cX8_rateBits 12 = .ok (.iload_n 1, 1) := by decide +kernel
theorem dX8_rateBits_13 : decode cX8_rateBits 13 = .ok (.ifCond .gt 5, 3) := by decide +kernel
theorem dX8_rateBits_16 : decode cX8_rateBits 16 = .ok (.iconst 0, 1) := by decide +kernel
theorem dX8_rateBits_17 : decode cX8_rateBits 17 = .ok (.ireturn, 1) := by decide +kernel
theorem dX8_rateBits_18 : decode cX8_rateBits 18 = .ok (.aload_n 0, 1) := by decide +kernel
theorem dX8_rateBits_19 : decode cX8_rateBits 19 = .ok (.getfield 10, 3) := by decide +kernel
theorem dX8_rateBits_22 : decode cX8_rateBits 22 = .ok (.iconst 0, 1) := by decide +kernel
theorem dX8_rateBits_23 : decode cX8_rateBits 23 = .ok (.sipush 999, 3) := by decide +kernel
theorem dX8_rateBits_26 : decode cX8_rateBits 26 = .ok (.invokevirtual 165, 3) := by decide +kernel
theorem dX8_rateBits_29 : decode cX8_rateBits 29 = .ok (.i2f, 1) := by decide +kernel
theorem dX8_rateBits_30 : decode cX8_rateBits 30 = .ok (.iload_n 1, 1) := by decide +kernel
theorem dX8_rateBits_31 : decode cX8_rateBits 31 = .ok (.i2f, 1) := by decide +kernel
theorem dX8_rateBits_32 : decode cX8_rateBits 32 = .ok (.fdiv, 1) := by decide +kernel
theorem dX8_rateBits_33 : decode cX8_rateBits 33 = .ok (.invokestatic 186, 3) := by decide +kernel
theorem dX8_rateBits_36 : decode cX8_rateBits 36 = .ok (.ireturn, 1) := by decide +kernel
theorem dX8_append_0 : decode cX8_append 0 = .ok (.iload_n 1, 1) := by decide +kernel
theorem dX8_append_1 : decode cX8_append 1 = .ok (.iconst 0, 1) := by decide +kernel
theorem dX8_append_2 : decode cX8_append 2 = .ok (.bipush 127, 2) := by decide +kernel
theorem dX8_append_4 : decode cX8_append 4 = .ok (.invokestatic 71, 3) := by decide +kernel
theorem dX8_append_7 : decode cX8_append 7 = .ok (.invokestatic 101, 3) := by decide +kernel
theorem dX8_append_10 : decode cX8_append 10 = .ok (.aload_n 0, 1) := by decide +kernel
theorem dX8_append_11 : decode cX8_append 11 = .ok (.getfield 29, 3) := by decide +kernel
theorem dX8_append_14 : decode cX8_append 14 = .ok (.invokevirtual 190, 3) := by decide +kernel
theorem dX8_append_17 : decode cX8_append 17 = .ok (.bipush 100, 2) := by decide +kernel
theorem dX8_append_19 : decode cX8_append 19 = .ok (.if_icmp .lt 13, 3) := by decide +kernel
theorem dX8_append_22 : decode cX8_append 22 = .ok (.new 193, 3) := by decide +kernel
theorem dX8_append_25 : decode cX8_append 25 = .ok (.dup, 1) := by decide +kernel
theorem dX8_append_26 : decode cX8_append 26 = .ok (.ldc 195, 2) := by decide +kernel
theorem dX8_append_28 : decode cX8_append 28 = .ok (.invokespecial 197, 3) := by decide +kernel
theorem dX8_append_31 : decode cX8_append 31 = .ok (.athrow, 1) := by decide +kernel
theorem dX8_append_32 : decode cX8_append 32 = .ok (.aload_n 0, 1) := by decide +kernel
theorem dX8_append_33 : decode cX8_append 33 = .ok (.getfield 29, 3) := by decide +kernel
theorem dX8_append_36 : decode cX8_append 36 = .ok (.iload_n 1, 1) := by decide +kernel
theorem dX8_append_37 : decode cX8_append 37 = .ok (.invokevirtual 200, 3) := by decide +kernel
theorem dX8_append_40 : decode cX8_append 40 = .ok (.ireturn, 1) := by decide +kernel
theorem dX8_clearText_0 : decode cX8_clearText 0 = .ok (.aload_n 0, 1) := by decide +kernel
theorem dX8_clearText_1 : decode cX8_clearText 1 = .ok (.getfield 29, 3) := by decide +kernel
theorem dX8_clearText_4 : decode cX8_clearText 4 = .ok (.invokevirtual 203, 3) := by decide +kernel
theorem dX8_clearText_7 : decode cX8_clearText 7 = .ok (.ireturn, 1) := by decide +kernel
theorem dX8_execute_0 : decode cX8_execute 0 = .ok (.aload_n 0, 1) := by decide +kernel
theorem dX8_execute_1 : decode cX8_execute 1 = .ok (.getfield 29, 3) := by decide +kernel
theorem dX8_execute_4 : decode cX8_execute 4 = .ok (.invokevirtual 206, 3) := by decide +kernel
theorem dX8_execute_7 : decode cX8_execute 7 = .ok (.istore_n 1, 1) := by decide +kernel
theorem dX8_execute_8 : decode cX8_execute 8 = .ok (.iload_n 1, 1) := by decide +kernel
theorem dX8_execute_9 : decode cX8_execute 9 = .ok (.iconst (-1), 1) := by decide +kernel
theorem dX8_execute_10 : decode cX8_execute 10 = .ok (.if_icmp .eq 8, 3) := by decide +kernel
theorem dX8_execute_13 : decode cX8_execute 13 = .ok (.bipush (-10), 2) := by decide +kernel
theorem dX8_execute_15 : decode cX8_execute 15 = .ok (.iload_n 1, 1) := by decide +kernel
theorem dX8_execute_16 : decode cX8_execute 16 = .ok (.isub, 1) := by decide +kernel
theorem dX8_execute_17 : decode cX8_execute 17 = .ok (.ireturn, 1) := by decide +kernel
theorem dX8_execute_18 : decode cX8_execute 18 = .ok (.aload_n 0, 1) := by decide +kernel
theorem dX8_execute_19 : decode cX8_execute 19 = .ok (.getfield 16, 3) := by decide +kernel
theorem dX8_execute_22 : decode cX8_execute 22 = .ok (.aload_n 0, 1) := by decide +kernel
theorem dX8_execute_23 : decode cX8_execute 23 = .ok (.getfield 10, 3) := by decide +kernel
theorem dX8_execute_26 : decode cX8_execute 26 = .ok (.invokevirtual 82, 3) := by decide +kernel
theorem dX8_execute_29 : decode cX8_execute 29 = .ok (.iconst 0, 1) := by decide +kernel
theorem dX8_execute_30 : decode cX8_execute 30 = .ok (.istore_n 2, 1) := by decide +kernel
theorem dX8_execute_31 : decode cX8_execute 31 = .ok (.iconst 0, 1) := by decide +kernel
theorem dX8_execute_32 : decode cX8_execute 32 = .ok (.istore_n 3, 1) := by decide +kernel
theorem dX8_execute_33 : decode cX8_execute 33 = .ok (.iconst 0, 1) := by decide +kernel
theorem dX8_execute_34 : decode cX8_execute 34 = .ok (.istore 4, 2) := by decide +kernel
theorem dX8_execute_36 : decode cX8_execute 36 = .ok (.iconst 0, 1) := by decide +kernel
theorem dX8_execute_37 : decode cX8_execute 37 = .ok (.istore 5, 2) := by decide +kernel
theorem dX8_execute_39 : decode cX8_execute 39 = .ok (.iload 5, 2) := by decide +kernel
theorem dX8_execute_41 : decode cX8_execute 41 = .ok (.aload_n 0, 1) := by decide +kernel
theorem dX8_execute_42 : decode cX8_execute 42 = .ok (.getfield 29, 3) := by decide +kernel
theorem dX8_execute_45 : decode cX8_execute 45 = .ok (.invokevirtual 190, 3) := by decide +kernel
theorem dX8_execute_48 : decode cX8_execute 48 = .ok (.if_icmp .ge 83, 3) := by decide +kernel
theorem dX8_execute_51 : decode cX8_execute 51 = .ok (.aload_n 0, 1) := by decide +kernel
theorem dX8_execute_52 : decode cX8_execute 52 = .ok (.getfield 29, 3) := by decide +kernel
theorem dX8_execute_55 : decode cX8_execute 55 = .ok (.iload 5, 2) := by decide +kernel
theorem dX8_execute_57 : decode cX8_execute 57 = .ok (.invokevirtual 209, 3) := by decide +kernel
theorem dX8_execute_60 : decode cX8_execute 60 = .ok (.istore 6, 2) := by decide +kernel
theorem dX8_execute_62 : decode cX8_execute 62 = .ok (.iload 6, 2) := by decide +kernel
theorem dX8_execute_64 : decode cX8_execute 64 = .ok (.bipush 59, 2) := by decide +kernel
theorem dX8_execute_66 : decode cX8_execute 66 = .ok (.if_icmp .ne 29, 3) := by decide +kernel
theorem dX8_execute_69 : decode cX8_execute 69 = .ok (.aload_n 0, 1) := by decide +kernel
theorem dX8_execute_70 : decode cX8_execute 70 = .ok (.getfield 16, 3) := by decide +kernel
theorem dX8_execute_73 : decode cX8_execute 73 = .ok (.iload_n 3, 1) := by decide +kernel
theorem dX8_execute_74 : decode cX8_execute 74 = .ok (.iload 4, 2) := by decide +kernel
theorem dX8_execute_76 : decode cX8_execute 76 = .ok (.invokevirtual 212, 3) := by decide +kernel
theorem dX8_execute_79 : decode cX8_execute 79 = .ok (.iconst (-1), 1) := by decide +kernel
theorem dX8_execute_80 : decode cX8_execute 80 = .ok (.if_icmp .ne 9, 3) := by decide +kernel
theorem dX8_execute_83 : decode cX8_execute 83 = .ok (.sipush (-1000), 3) := by decide +kernel
theorem dX8_execute_86 : decode cX8_execute 86 = .ok (.iload_n 2, 1) := by decide +kernel
theorem dX8_execute_87 : decode cX8_execute 87 = .ok (.isub, 1) := by decide +kernel
theorem dX8_execute_88 : decode cX8_execute 88 = .ok (.ireturn, 1) := by decide +kernel
theorem dX8_execute_89 : decode cX8_execute 89 = .ok (.iinc 2 1, 3) := by decide +kernel
theorem dX8_execute_92 : decode cX8_execute 92 = .ok (.goto 33, 3) := by decide +kernel
theorem dX8_execute_95 : decode cX8_execute 95 = .ok (.iload 6, 2) := by decide +kernel
theorem dX8_execute_97 : decode cX8_execute 97 = .ok (.invokestatic 215, 3) := by decide +kernel
theorem dX8_execute_100 : decode cX8_execute 100 = .ok (.ifCond .eq 19, 3) := by decide +kernel
theorem dX8_execute_103 : decode cX8_execute 103 = .ok (.iload 4, 2) := by decide +kernel
theorem dX8_execute_105 : decode cX8_execute 105 = .ok (.bipush 10, 2) := by decide +kernel
theorem dX8_execute_107 : decode cX8_execute 107 = .ok (.imul, 1) := by decide +kernel
theorem dX8_execute_108 : decode cX8_execute 108 = .ok (.iload 6, 2) := by decide +kernel
theorem dX8_execute_110 : decode cX8_execute 110 = .ok (.bipush 48, 2) := by decide +kernel
theorem dX8_execute_112 : decode cX8_execute 112 = .ok (.isub, 1) := by decide +kernel
theorem dX8_execute_113 : decode cX8_execute 113 = .ok (.iadd, 1) := by decide +kernel
theorem dX8_execute_114 : decode cX8_execute 114 = .ok (.istore 4, 2) := by decide +kernel
theorem dX8_execute_116 : decode cX8_execute 116 = .ok (.goto 9, 3) := by decide +kernel
theorem dX8_execute_119 : decode cX8_execute 119 = .ok (.iload 6, 2) := by decide +kernel
theorem dX8_execute_121 : decode cX8_execute 121 = .ok (.istore_n 3, 1) := by decide +kernel
theorem dX8_execute_122 : decode cX8_execute 122 = .ok (.iconst 0, 1) := by decide +kernel
theorem dX8_execute_123 : decode cX8_execute 123 = .ok (.istore 4, 2) := by decide +kernel
theorem dX8_execute_125 : decode cX8_execute 125 = .ok (.iinc 5 1, 3) := by decide +kernel
theorem dX8_execute_128 : decode cX8_execute 128 = .ok (.goto (-89), 3) := by decide +kernel
theorem dX8_execute_131 : decode cX8_execute 131 = .ok (.aload_n 0, 1) := by decide +kernel
theorem dX8_execute_132 : decode cX8_execute 132 = .ok (.iload_n 2, 1) := by decide +kernel
theorem dX8_execute_133 : decode cX8_execute 133 = .ok (.invokevirtual 114, 3) := by decide +kernel
theorem dX8_execute_136 : decode cX8_execute 136 = .ok (.ireturn, 1) := by decide +kernel
theorem dX8_undo_0 : decode cX8_undo 0 = .ok (.aload_n 0, 1) := by decide +kernel
theorem dX8_undo_1 : decode cX8_undo 1 = .ok (.getfield 22, 3) := by decide +kernel
theorem dX8_undo_4 : decode cX8_undo 4 = .ok (.invokevirtual 218, 3) := by decide +kernel
theorem dX8_undo_7 : decode cX8_undo 7 = .ok (.ifCond .ne 13, 3) := by decide +kernel
theorem dX8_undo_10 : decode cX8_undo 10 = .ok (.new 193, 3) := by decide +kernel
theorem dX8_undo_13 : decode cX8_undo 13 = .ok (.dup, 1) := by decide +kernel
theorem dX8_undo_14 : decode cX8_undo 14 = .ok (.ldc 219, 2) := by decide +kernel
theorem dX8_undo_16 : decode cX8_undo 16 = .ok (.invokespecial 197, 3) := by decide +kernel
theorem dX8_undo_19 : decode cX8_undo 19 = .ok (.athrow, 1) := by decide +kernel
theorem dX8_undo_20 : decode cX8_undo 20 = .ok (.aload_n 0, 1) := by decide +kernel
theorem dX8_undo_21 : decode cX8_undo 21 = .ok (.getfield 22, 3) := by decide +kernel
theorem dX8_undo_24 : decode cX8_undo 24 = .ok (.aload_n 0, 1) := by decide +kernel
theorem dX8_undo_25 : decode cX8_undo 25 = .ok (.getfield 10, 3) := by decide +kernel
theorem dX8_undo_28 : decode cX8_undo 28 = .ok (.invokevirtual 221, 3) := by decide +kernel
theorem dX8_undo_31 : decode cX8_undo 31 = .ok (.ireturn, 1) := by decide +kernel
theorem dX8_digest_0 : decode cX8_digest 0 = .ok (.ldc2_w 225, 3) := by decide +kernel
theorem dX8_digest_3 : decode cX8_digest 3 = .ok (.lstore_n 1, 1) := by decide +kernel
theorem dX8_digest_4 : decode cX8_digest 4 = .ok (.iconst 0, 1) := by decide +kernel
theorem dX8_digest_5 : decode cX8_digest 5 = .ok (.istore_n 3, 1) := by decide +kernel
theorem dX8_digest_6 : decode cX8_digest 6 = .ok (.iload_n 3, 1) := by decide +kernel
theorem dX8_digest_7 : decode cX8_digest 7 = .ok (.bipush 8, 2) := by decide +kernel
theorem dX8_digest_9 : decode cX8_digest 9 = .ok (.if_icmp .gt 25, 3) := by decide +kernel
theorem dX8_digest_12 : decode cX8_digest 12 = .ok (.ldc2_w 227, 3) := by decide +kernel
theorem dX8_digest_15 : decode cX8_digest 15 = .ok (.lload_n 1, 1) := by decide +kernel
theorem dX8_digest_16 : decode cX8_digest 16 = .ok (.lmul, 1) := by decide +kernel
theorem dX8_digest_17 : decode cX8_digest 17 = .ok (.aload_n 0, 1) := by decide +kernel
theorem dX8_digest_18 : decode cX8_digest 18 = .ok (.getfield 10, 3) := by decide +kernel
theorem dX8_digest_21 : decode cX8_digest 21 = .ok (.iload_n 3, 1) := by decide +kernel
theorem dX8_digest_22 : decode cX8_digest 22 = .ok (.invokevirtual 123, 3) := by decide +kernel
theorem dX8_digest_25 : decode cX8_digest 25 = .ok (.i2l, 1) := by decide +kernel
theorem dX8_digest_26 : decode cX8_digest 26 = .ok (.ladd, 1) := by decide +kernel
theorem dX8_digest_27 : decode cX8_digest 27 = .ok (.lstore_n 1, 1) := by decide +kernel
theorem dX8_digest_28 : decode cX8_digest 28 = .ok (.iinc 3 1, 3) := by decide +kernel
theorem dX8_digest_31 : decode cX8_digest 31 = .ok (.goto (-25), 3) := by decide +kernel
theorem dX8_digest_34 : decode cX8_digest 34 = .ok (.iconst 0, 1) := by decide +kernel
theorem dX8_digest_35 : decode cX8_digest 35 = .ok (.istore_n 3, 1) := by decide +kernel
theorem dX8_digest_36 : decode cX8_digest 36 = .ok (.iload_n 3, 1) := by decide +kernel
theorem dX8_digest_37 : decode cX8_digest 37 = .ok (.aload_n 0, 1) := by decide +kernel
theorem dX8_digest_38 : decode cX8_digest 38 = .ok (.getfield 10, 3) := by decide +kernel
theorem dX8_digest_41 : decode cX8_digest 41 = .ok (.invokevirtual 229, 3) := by decide +kernel
theorem dX8_digest_44 : decode cX8_digest 44 = .ok (.if_icmp .ge 65, 3) := by decide +kernel
theorem dX8_digest_47 : decode cX8_digest 47 = .ok (.iconst 0, 1) := by decide +kernel
theorem dX8_digest_48 : decode cX8_digest 48 = .ok (.istore 4, 2) := by decide +kernel
theorem dX8_digest_50 : decode cX8_digest 50 = .ok (.iload 4, 2) := by decide +kernel
theorem dX8_digest_52 : decode cX8_digest 52 = .ok (.aload_n 0, 1) := by decide +kernel
theorem dX8_digest_53 : decode cX8_digest 53 = .ok (.getfield 10, 3) := by decide +kernel
theorem dX8_digest_56 : decode cX8_digest 56 = .ok (.invokevirtual 232, 3) := by decide +kernel
theorem dX8_digest_59 : decode cX8_digest 59 = .ok (.if_icmp .ge 44, 3) := by decide +kernel
theorem dX8_digest_62 : decode cX8_digest 62 = .ok (.iconst 0, 1) := by decide +kernel
theorem dX8_digest_63 : decode cX8_digest 63 = .ok (.istore 5, 2) := by decide +kernel
theorem dX8_digest_65 : decode cX8_digest 65 = .ok (.iload 5, 2) := by decide +kernel
theorem dX8_digest_67 : decode cX8_digest 67 = .ok (.iconst 3, 1) := by decide +kernel
theorem dX8_digest_68 : decode cX8_digest 68 = .ok (.if_icmp .gt 29, 3) := by decide +kernel
theorem dX8_digest_71 : decode cX8_digest 71 = .ok (.ldc2_w 227, 3) := by decide +kernel
theorem dX8_digest_74 : decode cX8_digest 74 = .ok (.lload_n 1, 1) := by decide +kernel
theorem dX8_digest_75 : decode cX8_digest 75 = .ok (.lmul, 1) := by decide +kernel
theorem dX8_digest_76 : decode cX8_digest 76 = .ok (.aload_n 0, 1) := by decide +kernel
theorem dX8_digest_77 : decode cX8_digest 77 = .ok (.getfield 10, 3) := by decide +kernel
theorem dX8_digest_80 : decode cX8_digest 80 = .ok (.iload_n 3, 1) := by decide +kernel
theorem dX8_digest_81 : decode cX8_digest 81 = .ok (.iload 4, 2) := by decide +kernel
theorem dX8_digest_83 : decode cX8_digest 83 = .ok (.iload 5, 2) := by decide +kernel
theorem dX8_digest_85 : decode cX8_digest 85 = .ok (.invokevirtual 130, 3) := by decide +kernel
theorem dX8_digest_88 : decode cX8_digest 88 = .ok (.i2l, 1) := by decide +kernel
theorem dX8_digest_89 : decode cX8_digest 89 = .ok (.ladd, 1) := by decide +kernel
theorem dX8_digest_90 : decode cX8_digest 90 = .ok (.lstore_n 1, 1) := by decide +kernel
theorem dX8_digest_91 : decode cX8_digest 91 = .ok (.iinc 5 1, 3) := by decide +kernel
theorem dX8_digest_94 : decode cX8_digest 94 = .ok (.goto (-29), 3) := by decide +kernel
theorem dX8_digest_97 : decode cX8_digest 97 = .ok (.iinc 4 1, 3) := by decide +kernel
theorem dX8_digest_100 : decode cX8_digest 100 = .ok (.goto (-50), 3) := by decide +kernel
theorem dX8_digest_103 : decode cX8_digest 103 = .ok (.iinc 3 1, 3) := by decide +kernel
theorem dX8_digest_106 : decode cX8_digest 106 = .ok (.goto (-70), 3) := by decide +kernel
theorem dX8_digest_109 : decode cX8_digest 109 = .ok (.iconst 0, 1) := by decide +kernel
theorem dX8_digest_110 : decode cX8_digest 110 = .ok (.istore_n 3, 1) := by decide +kernel
theorem dX8_digest_111 : decode cX8_digest 111 = .ok (.iload_n 3, 1) := by decide +kernel
theorem dX8_digest_112 : decode cX8_digest 112 = .ok (.aload_n 0, 1) := by decide +kernel
theorem dX8_digest_113 : decode cX8_digest 113 = .ok (.getfield 10, 3) := by decide +kernel
theorem dX8_digest_116 : decode cX8_digest 116 = .ok (.invokevirtual 108, 3) := by decide +kernel
theorem dX8_digest_119 : decode cX8_digest 119 = .ok (.if_icmp .ge 42, 3) := by decide +kernel
theorem dX8_digest_122 : decode cX8_digest 122 = .ok (.iconst 0, 1) := by decide +kernel
theorem dX8_digest_123 : decode cX8_digest 123 = .ok (.istore 4, 2) := by decide +kernel
theorem dX8_digest_125 : decode cX8_digest 125 = .ok (.iload 4, 2) := by decide +kernel
theorem dX8_digest_127 : decode cX8_digest 127 = .ok (.iconst 3, 1) := by decide +kernel
theorem dX8_digest_128 : decode cX8_digest 128 = .ok (.if_icmp .gt 27, 3) := by decide +kernel
theorem dX8_digest_131 : decode cX8_digest 131 = .ok (.ldc2_w 227, 3) := by decide +kernel
theorem dX8_digest_134 : decode cX8_digest 134 = .ok (.lload_n 1, 1) := by decide +kernel
theorem dX8_digest_135 : decode cX8_digest 135 = .ok (.lmul, 1) := by decide +kernel
theorem dX8_digest_136 : decode cX8_digest 136 = .ok (.aload_n 0, 1) := by decide +kernel
theorem dX8_digest_137 : decode cX8_digest 137 = .ok (.getfield 10, 3) := by decide +kernel
theorem dX8_digest_140 : decode cX8_digest 140 = .ok (.iload_n 3, 1) := by decide +kernel
theorem dX8_digest_141 : decode cX8_digest 141 = .ok (.iload 4, 2) := by decide +kernel
theorem dX8_digest_143 : decode cX8_digest 143 = .ok (.invokevirtual 134, 3) := by decide +kernel
theorem dX8_digest_146 : decode cX8_digest 146 = .ok (.i2l, 1) := by decide +kernel
theorem dX8_digest_147 : decode cX8_digest 147 = .ok (.ladd, 1) := by decide +kernel
theorem dX8_digest_148 : decode cX8_digest 148 = .ok (.lstore_n 1, 1) := by decide +kernel
theorem dX8_digest_149 : decode cX8_digest 149 = .ok (.iinc 4 1, 3) := by decide +kernel
theorem dX8_digest_152 : decode cX8_digest 152 = .ok (.goto (-27), 3) := by decide +kernel
theorem dX8_digest_155 : decode cX8_digest 155 = .ok (.iinc 3 1, 3) := by decide +kernel
theorem dX8_digest_158 : decode cX8_digest 158 = .ok (.goto (-47), 3) := by decide +kernel
theorem dX8_digest_161 : decode cX8_digest 161 = .ok (.ldc2_w 227, 3) := by decide +kernel
theorem dX8_digest_164 : decode cX8_digest 164 = .ok (.lload_n 1, 1) := by decide +kernel
theorem dX8_digest_165 : decode cX8_digest 165 = .ok (.lmul, 1) := by decide +kernel
theorem dX8_digest_166 : decode cX8_digest 166 = .ok (.aload_n 0, 1) := by decide +kernel
theorem dX8_digest_167 : decode cX8_digest 167 = .ok (.getfield 10, 3) := by decide +kernel
theorem dX8_digest_170 : decode cX8_digest 170 = .ok (.invokevirtual 67, 3) := by decide +kernel
theorem dX8_digest_173 : decode cX8_digest 173 = .ok (.i2l, 1) := by decide +kernel
theorem dX8_digest_174 : decode cX8_digest 174 = .ok (.ladd, 1) := by decide +kernel
theorem dX8_digest_175 : decode cX8_digest 175 = .ok (.lstore_n 1, 1) := by decide +kernel
theorem dX8_digest_176 : decode cX8_digest 176 = .ok (.iconst 0, 1) := by decide +kernel
theorem dX8_digest_177 : decode cX8_digest 177 = .ok (.istore_n 3, 1) := by decide +kernel
theorem dX8_digest_178 : decode cX8_digest 178 = .ok (.iload_n 3, 1) := by decide +kernel
theorem dX8_digest_179 : decode cX8_digest 179 = .ok (.aload_n 0, 1) := by decide +kernel
theorem dX8_digest_180 : decode cX8_digest 180 = .ok (.getfield 10, 3) := by decide +kernel
theorem dX8_digest_183 : decode cX8_digest 183 = .ok (.invokevirtual 67, 3) := by decide +kernel
theorem dX8_digest_186 : decode cX8_digest 186 = .ok (.if_icmp .ge 25, 3) := by decide +kernel
theorem dX8_digest_189 : decode cX8_digest 189 = .ok (.ldc2_w 227, 3) := by decide +kernel
theorem dX8_digest_192 : decode cX8_digest 192 = .ok (.lload_n 1, 1) := by decide +kernel
theorem dX8_digest_193 : decode cX8_digest 193 = .ok (.lmul, 1) := by decide +kernel
theorem dX8_digest_194 : decode cX8_digest 194 = .ok (.aload_n 0, 1) := by decide +kernel
theorem dX8_digest_195 : decode cX8_digest 195 = .ok (.getfield 10, 3) := by decide +kernel
theorem dX8_digest_198 : decode cX8_digest 198 = .ok (.iload_n 3, 1) := by decide +kernel
theorem dX8_digest_199 : decode cX8_digest 199 = .ok (.invokevirtual 79, 3) := by decide +kernel
theorem dX8_digest_202 : decode cX8_digest 202 = .ok (.i2l, 1) := by decide +kernel
theorem dX8_digest_203 : decode cX8_digest 203 = .ok (.ladd, 1) := by decide +kernel
theorem dX8_digest_204 : decode cX8_digest 204 = .ok (.lstore_n 1, 1) := by decide +kernel
theorem dX8_digest_205 : decode cX8_digest 205 = .ok (.iinc 3 1, 3) := by decide +kernel
theorem dX8_digest_208 : decode cX8_digest 208 = .ok (.goto (-30), 3) := by decide +kernel
theorem dX8_digest_211 : decode cX8_digest 211 = .ok (.ldc2_w 227, 3) := by decide +kernel
theorem dX8_digest_214 : decode cX8_digest 214 = .ok (.lload_n 1, 1) := by decide +kernel
theorem dX8_digest_215 : decode cX8_digest 215 = .ok (.lmul, 1) := by decide +kernel
theorem dX8_digest_216 : decode cX8_digest 216 = .ok (.aload_n 0, 1) := by decide +kernel
theorem dX8_digest_217 : decode cX8_digest 217 = .ok (.getfield 10, 3) := by decide +kernel
theorem dX8_digest_220 : decode cX8_digest 220 = .ok (.iconst 0, 1) := by decide +kernel
theorem dX8_digest_221 : decode cX8_digest 221 = .ok (.sipush 999, 3) := by decide +kernel
theorem dX8_digest_224 : decode cX8_digest 224 = .ok (.invokevirtual 165, 3) := by decide +kernel
theorem dX8_digest_227 : decode cX8_digest 227 = .ok (.i2l, 1) := by decide +kernel
theorem dX8_digest_228 : decode cX8_digest 228 = .ok (.ladd, 1) := by decide +kernel
theorem dX8_digest_229 : decode cX8_digest 229 = .ok (.lstore_n 1, 1) := by decide +kernel
theorem dX8_digest_230 : decode cX8_digest 230 = .ok (.ldc2_w 227, 3) := by decide +kernel
theorem dX8_digest_233 : decode cX8_digest 233 = .ok (.lload_n 1, 1) := by decide +kernel
theorem dX8_digest_234 : decode cX8_digest 234 = .ok (.lmul, 1) := by decide +kernel
theorem dX8_digest_235 : decode cX8_digest 235 = .ok (.aload_n 0, 1) := by decide +kernel
theorem dX8_digest_236 : decode cX8_digest 236 = .ok (.getfield 29, 3) := by decide +kernel
theorem dX8_digest_239 : decode cX8_digest 239 = .ok (.invokevirtual 190, 3) := by decide +kernel
theorem dX8_digest_242 : decode cX8_digest 242 = .ok (.i2l, 1) := by decide +kernel
theorem dX8_digest_243 : decode cX8_digest 243 = .ok (.ladd, 1) := by decide +kernel
theorem dX8_digest_244 : decode cX8_digest 244 = .ok (.lstore_n 1, 1) := by decide +kernel
theorem dX8_digest_245 : decode cX8_digest 245 = .ok (.ldc2_w 227, 3) := by decide +kernel
theorem dX8_digest_248 : decode cX8_digest 248 = .ok (.lload_n 1, 1) := by decide +kernel
theorem dX8_digest_249 : decode cX8_digest 249 = .ok (.lmul, 1) := by decide +kernel
theorem dX8_digest_250 : decode cX8_digest 250 = .ok (.aload_n 0, 1) := by decide +kernel
theorem dX8_digest_251 : decode cX8_digest 251 = .ok (.getfield 22, 3) := by decide +kernel
theorem dX8_digest_254 : decode cX8_digest 254 = .ok (.invokevirtual 218, 3) := by decide +kernel
theorem dX8_digest_257 : decode cX8_digest 257 = .ok (.i2l, 1) := by decide +kernel
theorem dX8_digest_258 : decode cX8_digest 258 = .ok (.ladd, 1) := by decide +kernel
theorem dX8_digest_259 : decode cX8_digest 259 = .ok (.lreturn, 1) := by decide +kernel
theorem dX8_acceptIfPossible_0 : decode cX8_acceptIfPossible 0 = .ok (.iload_n 1, 1) := by decide +kernel
theorem dX8_acceptIfPossible_1 : decode cX8_acceptIfPossible 1 = .ok (.iconst (-1), 1) := by decide +kernel
theorem dX8_acceptIfPossible_2 : decode cX8_acceptIfPossible 2 = .ok (.if_icmp .ne 13, 3) := by decide +kernel
theorem dX8_acceptIfPossible_5 : decode cX8_acceptIfPossible 5 = .ok (.new 193, 3) := by decide +kernel
theorem dX8_acceptIfPossible_8 : decode cX8_acceptIfPossible 8 = .ok (.dup, 1) := by decide +kernel
theorem dX8_acceptIfPossible_9 : decode cX8_acceptIfPossible 9 = .ok (.ldc 235, 2) := by decide +kernel
theorem dX8_acceptIfPossible_11 : decode cX8_acceptIfPossible 11 = .ok (.invokespecial 197, 3) := by decide +kernel
theorem dX8_acceptIfPossible_14 : decode cX8_acceptIfPossible 14 = .ok (.athrow, 1) := by decide +kernel
theorem dX8_acceptIfPossible_15 : decode cX8_acceptIfPossible 15 = .ok (.aload_n 0, 1) := by decide +kernel
theorem dX8_acceptIfPossible_16 : decode cX8_acceptIfPossible 16 = .ok (.iload_n 1, 1) := by decide +kernel
theorem dX8_acceptIfPossible_17 : decode cX8_acceptIfPossible 17 = .ok (.invokevirtual 114, 3) := by decide +kernel
theorem dX8_acceptIfPossible_20 : decode cX8_acceptIfPossible 20 = .ok (.ireturn, 1) := by decide +kernel
theorem dX8_accept_0 : decode cX8_accept 0 = .ok (.aload_n 0, 1) := by decide +kernel
theorem dX8_accept_1 : decode cX8_accept 1 = .ok (.getfield 22, 3) := by decide +kernel
theorem dX8_accept_4 : decode cX8_accept 4 = .ok (.aload_n 0, 1) := by decide +kernel
theorem dX8_accept_5 : decode cX8_accept 5 = .ok (.getfield 10, 3) := by decide +kernel
theorem dX8_accept_8 : decode cX8_accept 8 = .ok (.invokevirtual 237, 3) := by decide +kernel
theorem dX8_accept_11 : decode cX8_accept 11 = .ok (.aload_n 0, 1) := by decide +kernel
theorem dX8_accept_12 : decode cX8_accept 12 = .ok (.getfield 10, 3) := by decide +kernel
theorem dX8_accept_15 : decode cX8_accept 15 = .ok (.aload_n 0, 1) := by decide +kernel
theorem dX8_accept_16 : decode cX8_accept 16 = .ok (.getfield 16, 3) := by decide +kernel
theorem dX8_accept_19 : decode cX8_accept 19 = .ok (.invokevirtual 82, 3) := by decide +kernel
theorem dX8_accept_22 : decode cX8_accept 22 = .ok (.iload_n 1, 1) := by decide +kernel
theorem dX8_accept_23 : decode cX8_accept 23 = .ok (.ireturn, 1) := by decide +kernel
theorem dX8_within_0 : decode cX8_within 0 = .ok (.iload_n 0, 1) := by decide +kernel
theorem dX8_within_1 : decode cX8_within 1 = .ok (.iload_n 1, 1) := by decide +kernel
theorem dX8_within_2 : decode cX8_within 2 = .ok (.if_icmp .lt 12, 3) := by decide +kernel
theorem dX8_within_5 : decode cX8_within 5 = .ok (.iload_n 0, 1) := by decide +kernel
theorem dX8_within_6 : decode cX8_within 6 = .ok (.iload_n 2, 1) := by decide +kernel
theorem dX8_within_7 : decode cX8_within 7 = .ok (.if_icmp .gt 7, 3) := by decide +kernel
theorem dX8_within_10 : decode cX8_within 10 = .ok (.iconst 1, 1) := by decide +kernel
theorem dX8_within_11 : decode cX8_within 11 = .ok (.goto 4, 3) := by decide +kernel
theorem dX8_within_14 : decode cX8_within 14 = .ok (.iconst 0, 1) := by decide +kernel
theorem dX8_within_15 : decode cX8_within 15 = .ok (.ireturn, 1) := by decide +kernel
theorem dX8_checkArgument_0 : decode cX8_checkArgument 0 = .ok (.iload_n 0, 1) := by decide +kernel
theorem dX8_checkArgument_1 : decode cX8_checkArgument 1 = .ok (.ifCond .ne 13, 3) := by decide +kernel
theorem dX8_checkArgument_4 : decode cX8_checkArgument 4 = .ok (.new 240, 3) := by decide +kernel
theorem dX8_checkArgument_7 : decode cX8_checkArgument 7 = .ok (.dup, 1) := by decide +kernel
theorem dX8_checkArgument_8 : decode cX8_checkArgument 8 = .ok (.ldc 242, 2) := by decide +kernel
theorem dX8_checkArgument_10 : decode cX8_checkArgument 10 = .ok (.invokespecial 244, 3) := by decide +kernel
theorem dX8_checkArgument_13 : decode cX8_checkArgument 13 = .ok (.athrow, 1) := by decide +kernel
theorem dX8_checkArgument_14 : decode cX8_checkArgument 14 = .ok (.return_, 1) := by decide +kernel
theorem dX8_checkPosition_0 : decode cX8_checkPosition 0 = .ok (.iload_n 0, 1) := by decide +kernel
theorem dX8_checkPosition_1 : decode cX8_checkPosition 1 = .ok (.ifCond .ne 13, 3) := by decide +kernel
theorem dX8_checkPosition_4 : decode cX8_checkPosition 4 = .ok (.new 245, 3) := by decide +kernel
theorem dX8_checkPosition_7 : decode cX8_checkPosition 7 = .ok (.dup, 1) := by decide +kernel
theorem dX8_checkPosition_8 : decode cX8_checkPosition 8 = .ok (.ldc 247, 2) := by decide +kernel
theorem dX8_checkPosition_10 : decode cX8_checkPosition 10 = .ok (.invokespecial 249, 3) := by decide +kernel
theorem dX8_checkPosition_13 : decode cX8_checkPosition 13 = .ok (.athrow, 1) := by decide +kernel
theorem dX8_checkPosition_14 : decode cX8_checkPosition 14 = .ok (.return_, 1) := by decide +kernel
theorem dX8_checkKey_0 : decode cX8_checkKey 0 = .ok (.iload_n 0, 1) := by decide +kernel
theorem dX8_checkKey_1 : decode cX8_checkKey 1 = .ok (.iconst 0, 1) := by decide +kernel
theorem dX8_checkKey_2 : decode cX8_checkKey 2 = .ok (.sipush 999, 3) := by decide +kernel
theorem dX8_checkKey_5 : decode cX8_checkKey 5 = .ok (.invokestatic 71, 3) := by decide +kernel
theorem dX8_checkKey_8 : decode cX8_checkKey 8 = .ok (.invokestatic 101, 3) := by decide +kernel
theorem dX8_checkKey_11 : decode cX8_checkKey 11 = .ok (.return_, 1) := by decide +kernel
theorem dX8_checkRange_0 : decode cX8_checkRange 0 = .ok (.iload_n 0, 1) := by decide +kernel
theorem dX8_checkRange_1 : decode cX8_checkRange 1 = .ok (.ifCond .lt 19, 3) := by decide +kernel
theorem dX8_checkRange_4 : decode cX8_checkRange 4 = .ok (.iload_n 0, 1) := by decide +kernel
theorem dX8_checkRange_5 : decode cX8_checkRange 5 = .ok (.iload_n 1, 1) := by decide +kernel
theorem dX8_checkRange_6 : decode cX8_checkRange 6 = .ok (.if_icmp .gt 14, 3) := by decide +kernel
theorem dX8_checkRange_9 : decode cX8_checkRange 9 = .ok (.iload_n 1, 1) := by decide +kernel
theorem dX8_checkRange_10 : decode cX8_checkRange 10 = .ok (.sipush 1000, 3) := by decide +kernel
theorem dX8_checkRange_13 : decode cX8_checkRange 13 = .ok (.if_icmp .ge 7, 3) := by decide +kernel
theorem dX8_checkRange_16 : decode cX8_checkRange 16 = .ok (.iconst 1, 1) := by decide +kernel
theorem dX8_checkRange_17 : decode cX8_checkRange 17 = .ok (.goto 4, 3) := by decide +kernel
theorem dX8_checkRange_20 : decode cX8_checkRange 20 = .ok (.iconst 0, 1) := by decide +kernel
theorem dX8_checkRange_21 : decode cX8_checkRange 21 = .ok (.invokestatic 101, 3) := by decide +kernel
theorem dX8_checkRange_24 : decode cX8_checkRange 24 = .ok (.return_, 1) := by decide +kernel
theorem dX8_checkSlot_0 : decode cX8_checkSlot 0 = .ok (.iload_n 1, 1) := by decide +kernel
theorem dX8_checkSlot_1 : decode cX8_checkSlot 1 = .ok (.iconst 0, 1) := by decide +kernel
theorem dX8_checkSlot_2 : decode cX8_checkSlot 2 = .ok (.aload_n 0, 1) := by decide +kernel
theorem dX8_checkSlot_3 : decode cX8_checkSlot 3 = .ok (.getfield 10, 3) := by decide +kernel
theorem dX8_checkSlot_6 : decode cX8_checkSlot 6 = .ok (.invokevirtual 229, 3) := by decide +kernel
theorem dX8_checkSlot_9 : decode cX8_checkSlot 9 = .ok (.iconst 1, 1) := by decide +kernel
theorem dX8_checkSlot_10 : decode cX8_checkSlot 10 = .ok (.isub, 1) := by decide +kernel
theorem dX8_checkSlot_11 : decode cX8_checkSlot 11 = .ok (.invokestatic 71, 3) := by decide +kernel
theorem dX8_checkSlot_14 : decode cX8_checkSlot 14 = .ok (.invokestatic 75, 3) := by decide +kernel
theorem dX8_checkSlot_17 : decode cX8_checkSlot 17 = .ok (.iload_n 2, 1) := by decide +kernel
theorem dX8_checkSlot_18 : decode cX8_checkSlot 18 = .ok (.iconst 0, 1) := by decide +kernel
theorem dX8_checkSlot_19 : decode cX8_checkSlot 19 = .ok (.aload_n 0, 1) := by decide +kernel
theorem dX8_checkSlot_20 : decode cX8_checkSlot 20 = .ok (.getfield 10, 3) := by decide +kernel
theorem dX8_checkSlot_23 : decode cX8_checkSlot 23 = .ok (.invokevirtual 232, 3) := by decide +kernel
theorem dX8_checkSlot_26 : decode cX8_checkSlot 26 = .ok (.iconst 1, 1) := by decide +kernel
theorem dX8_checkSlot_27 : decode cX8_checkSlot 27 = .ok (.isub, 1) := by decide +kernel
theorem dX8_checkSlot_28 : decode cX8_checkSlot 28 = .ok (.invokestatic 71, 3) := by decide +kernel
theorem dX8_checkSlot_31 : decode cX8_checkSlot 31 = .ok (.invokestatic 75, 3) := by decide +kernel
theorem dX8_checkSlot_34 : decode cX8_checkSlot 34 = .ok (.return_, 1) := by decide +kernel
theorem dX8_bitsOf_0 : decode cX8_bitsOf 0 = .ok (.fload_n 0, 1) := by decide +kernel
theorem dX8_bitsOf_1 : decode cX8_bitsOf 1 = .ok (.fconst 0, 1) := by decide +kernel
theorem dX8_bitsOf_2 : decode cX8_bitsOf 2 = .ok (.fcmp .g, 1) := by decide +kernel
theorem dX8_bitsOf_3 : decode cX8_bitsOf 3 = .ok (.ifCond .gt 5, 3) := by decide +kernel
theorem dX8_bitsOf_6 : decode cX8_bitsOf 6 = .ok (.iconst 0, 1) := by decide +kernel
theorem dX8_bitsOf_7 : decode cX8_bitsOf 7 = .ok (.ireturn, 1) := by decide +kernel
theorem dX8_bitsOf_8 : decode cX8_bitsOf 8 = .ok (.fload_n 0, 1) := by decide +kernel
theorem dX8_bitsOf_9 : decode cX8_bitsOf 9 = .ok (.fstore_n 1, 1) := by decide +kernel
theorem dX8_bitsOf_10 : decode cX8_bitsOf 10 = .ok (.bipush 127, 2) := by decide +kernel
theorem dX8_bitsOf_12 : decode cX8_bitsOf 12 = .ok (.istore_n 2, 1) := by decide +kernel
theorem dX8_bitsOf_13 : decode cX8_bitsOf 13 = .ok (.fload_n 1, 1) := by decide +kernel
theorem dX8_bitsOf_14 : decode cX8_bitsOf 14 = .ok (.fconst 1, 1) := by decide +kernel
theorem dX8_bitsOf_15 : decode cX8_bitsOf 15 = .ok (.fcmp .g, 1) := by decide +kernel
theorem dX8_bitsOf_16 : decode cX8_bitsOf 16 = .ok (.ifCond .ge 18, 3) := by decide +kernel
theorem dX8_bitsOf_19 : decode cX8_bitsOf 19 = .ok (.iload_n 2, 1) := by decide +kernel
theorem dX8_bitsOf_20 : decode cX8_bitsOf 20 = .ok (.iconst 1, 1) := by decide +kernel
theorem dX8_bitsOf_21 : decode cX8_bitsOf 21 = .ok (.if_icmp .le 13, 3) := by decide +kernel
theorem dX8_bitsOf_24 : decode cX8_bitsOf 24 = .ok (.fload_n 1, 1) := by decide +kernel
theorem dX8_bitsOf_25 : decode cX8_bitsOf 25 = .ok (.fconst 2, 1) := by decide +kernel
theorem dX8_bitsOf_26 : decode cX8_bitsOf 26 = .ok (.fmul, 1) := by decide +kernel
theorem dX8_bitsOf_27 : decode cX8_bitsOf 27 = .ok (.fstore_n 1, 1) := by decide +kernel
theorem dX8_bitsOf_28 : decode cX8_bitsOf 28 = .ok (.iinc 2 (-1), 3) := by decide +kernel
theorem dX8_bitsOf_31 : decode cX8_bitsOf 31 = .ok (.goto (-18), 3) := by decide +kernel
theorem dX8_bitsOf_34 : decode cX8_bitsOf 34 = .ok (.fload_n 1, 1) := by decide +kernel
theorem dX8_bitsOf_35 : decode cX8_bitsOf 35 = .ok (.fconst 1, 1) := by decide +kernel
theorem dX8_bitsOf_36 : decode cX8_bitsOf 36 = .ok (.fsub, 1) := by decide +kernel
theorem dX8_bitsOf_37 : decode cX8_bitsOf 37 = .ok (.ldc 250, 2) := by decide +kernel
theorem dX8_bitsOf_39 : decode cX8_bitsOf 39 = .ok (.fmul, 1) := by decide +kernel
theorem dX8_bitsOf_40 : decode cX8_bitsOf 40 = .ok (.f2i, 1) := by decide +kernel
theorem dX8_bitsOf_41 : decode cX8_bitsOf 41 = .ok (.istore_n 3, 1) := by decide +kernel
theorem dX8_bitsOf_42 : decode cX8_bitsOf 42 = .ok (.iload_n 2, 1) := by decide +kernel
theorem dX8_bitsOf_43 : decode cX8_bitsOf 43 = .ok (.bipush 23, 2) := by decide +kernel
theorem dX8_bitsOf_45 : decode cX8_bitsOf 45 = .ok (.ishl, 1) := by decide +kernel
theorem dX8_bitsOf_46 : decode cX8_bitsOf 46 = .ok (.iload_n 3, 1) := by decide +kernel
theorem dX8_bitsOf_47 : decode cX8_bitsOf 47 = .ok (.ior, 1) := by decide +kernel
theorem dX8_bitsOf_48 : decode cX8_bitsOf 48 = .ok (.ireturn, 1) := by decide +kernel
theorem dJxf58ca_isNaN_12338_0 : decode cJxf58ca_isNaN_12338 0 = .ok (.fload_n 0, 1) := by decide +kernel
theorem dJxf58ca_isNaN_12338_1 : decode cJxf58ca_isNaN_12338 1 = .ok (.fload_n 0, 1) := by decide +kernel
theorem dJxf58ca_isNaN_12338_2 : decode cJxf58ca_isNaN_12338 2 = .ok (.fcmp .l, 1) := by decide +kernel
theorem dJxf58ca_isNaN_12338_3 : decode cJxf58ca_isNaN_12338 3 = .ok (.ifCond .eq 7, 3) := by decide +kernel
theorem dJxf58ca_isNaN_12338_6 : decode cJxf58ca_isNaN_12338 6 = .ok (.iconst 1, 1) := by decide +kernel
theorem dJxf58ca_isNaN_12338_7 : decode cJxf58ca_isNaN_12338 7 = .ok (.goto 4, 3) := by decide +kernel
theorem dJxf58ca_isNaN_12338_10 : decode cJxf58ca_isNaN_12338 10 = .ok (.iconst 0, 1) := by decide +kernel
theorem dJxf58ca_isNaN_12338_11 : decode cJxf58ca_isNaN_12338 11 = .ok (.ireturn, 1) := by decide +kernel
theorem dJxf58ca_floatToIntBits_5c35a_0 : decode cJxf58ca_floatToIntBits_5c35a 0 = .ok (.fload_n 0, 1) := by decide +kernel
theorem dJxf58ca_floatToIntBits_5c35a_1 : decode cJxf58ca_floatToIntBits_5c35a 1 = .ok (.invokestatic 59, 3) := by decide +kernel
theorem dJxf58ca_floatToIntBits_5c35a_4 : decode cJxf58ca_floatToIntBits_5c35a 4 = .ok (.ifCond .ne 8, 3) := by decide +kernel
theorem dJxf58ca_floatToIntBits_5c35a_7 : decode cJxf58ca_floatToIntBits_5c35a 7 = .ok (.fload_n 0, 1) := by decide +kernel
theorem dJxf58ca_floatToIntBits_5c35a_8 : decode cJxf58ca_floatToIntBits_5c35a 8 = .ok (.invokestatic 74, 3) := by decide +kernel
theorem dJxf58ca_floatToIntBits_5c35a_11 : decode cJxf58ca_floatToIntBits_5c35a 11 = .ok (.ireturn, 1) := by decide +kernel
theorem dJxf58ca_floatToIntBits_5c35a_12 : decode cJxf58ca_floatToIntBits_5c35a 12 = .ok (.ldc 77, 2) := by decide +kernel
theorem dJxf58ca_floatToIntBits_5c35a_14 : decode cJxf58ca_floatToIntBits_5c35a 14 = .ok (.ireturn, 1) := by decide +kernel
