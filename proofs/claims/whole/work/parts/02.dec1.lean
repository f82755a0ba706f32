theorem d_Im_init_0 : decode b_Im_init 0 = .ok (.aload_n 0, 1) := by decide +kernel
theorem d_Im_init_1 : decode b_Im_init 1 = .ok (.invokespecial 3, 3) := by decide +kernel
theorem d_Im_init_4 : decode b_Im_init 4 = .ok (.aload_n 0, 1) := by decide +kernel
theorem d_Im_init_5 : decode b_Im_init 5 = .ok (.sipush 12544, 3) := by decide +kernel
theorem d_Im_init_8 : decode b_Im_init 8 = .ok (.newarray .long, 2) := by decide +kernel
theorem d_Im_init_10 : decode b_Im_init 10 = .ok (.putfield 9, 3) := by decide +kernel
theorem d_Im_init_13 : decode b_Im_init 13 = .ok (.return_, 1) := by decide +kernel
theorem d_Im_wordAt_0 : decode b_Im_wordAt 0 = .ok (.iload_n 1, 1) := by decide +kernel
theorem d_Im_wordAt_1 : decode b_Im_wordAt 1 = .ok (.bipush 16, 2) := by decide +kernel
theorem d_Im_wordAt_3 : decode b_Im_wordAt 3 = .ok (.imul, 1) := by decide +kernel
theorem d_Im_wordAt_4 : decode b_Im_wordAt 4 = .ok (.iload_n 2, 1) := by decide +kernel
theorem d_Im_wordAt_5 : decode b_Im_wordAt 5 = .ok (.iadd, 1) := by decide +kernel
theorem d_Im_wordAt_6 : decode b_Im_wordAt 6 = .ok (.istore_n 3, 1) := by decide +kernel
theorem d_Im_wordAt_7 : decode b_Im_wordAt 7 = .ok (.iload_n 3, 1) := by decide +kernel
theorem d_Im_wordAt_8 : decode b_Im_wordAt 8 = .ok (.ifCond .lt 21, 3) := by decide +kernel
theorem d_Im_wordAt_11 : decode b_Im_wordAt 11 = .ok (.iload_n 3, 1) := by decide +kernel
theorem d_Im_wordAt_12 : decode b_Im_wordAt 12 = .ok (.aload_n 0, 1) := by decide +kernel
theorem d_Im_wordAt_13 : decode b_Im_wordAt 13 = .ok (.getfield 9, 3) := by decide +kernel
theorem d_Im_wordAt_16 : decode b_Im_wordAt 16 = .ok (.arraylength, 1) := by decide +kernel
theorem d_Im_wordAt_17 : decode b_Im_wordAt 17 = .ok (.if_icmp .ge 12, 3) := by decide +kernel
theorem d_Im_wordAt_20 : decode b_Im_wordAt 20 = .ok (.aload_n 0, 1) := by decide +kernel
theorem d_Im_wordAt_21 : decode b_Im_wordAt 21 = .ok (.getfield 9, 3) := by decide +kernel
theorem d_Im_wordAt_24 : decode b_Im_wordAt 24 = .ok (.iload_n 3, 1) := by decide +kernel
theorem d_Im_wordAt_25 : decode b_Im_wordAt 25 = .ok (.laload, 1) := by decide +kernel
theorem d_Im_wordAt_26 : decode b_Im_wordAt 26 = .ok (.goto 4, 3) := by decide +kernel
theorem d_Im_wordAt_29 : decode b_Im_wordAt 29 = .ok (.lconst 0, 1) := by decide +kernel
theorem d_Im_wordAt_30 : decode b_Im_wordAt 30 = .ok (.lreturn, 1) := by decide +kernel
theorem d_Im_setWord_0 : decode b_Im_setWord 0 = .ok (.iload_n 1, 1) := by decide +kernel
theorem d_Im_setWord_1 : decode b_Im_setWord 1 = .ok (.bipush 16, 2) := by decide +kernel
theorem d_Im_setWord_3 : decode b_Im_setWord 3 = .ok (.imul, 1) := by decide +kernel
theorem d_Im_setWord_4 : decode b_Im_setWord 4 = .ok (.iload_n 2, 1) := by decide +kernel
theorem d_Im_setWord_5 : decode b_Im_setWord 5 = .ok (.iadd, 1) := by decide +kernel
theorem d_Im_setWord_6 : decode b_Im_setWord 6 = .ok (.istore 5, 2) := by decide +kernel
theorem d_Im_setWord_8 : decode b_Im_setWord 8 = .ok (.iload 5, 2) := by decide +kernel
theorem d_Im_setWord_10 : decode b_Im_setWord 10 = .ok (.ifCond .lt 21, 3) := by decide +kernel
theorem d_Im_setWord_13 : decode b_Im_setWord 13 = .ok (.iload 5, 2) := by decide +kernel
theorem d_Im_setWord_15 : decode b_Im_setWord 15 = .ok (.aload_n 0, 1) := by decide +kernel
theorem d_Im_setWord_16 : decode b_Im_setWord 16 = .ok (.getfield 9, 3) := by decide +kernel
theorem d_Im_setWord_19 : decode b_Im_setWord 19 = .ok (.arraylength, 1) := by decide +kernel
theorem d_Im_setWord_20 : decode b_Im_setWord 20 = .ok (.if_icmp .ge 11, 3) := by decide +kernel
theorem d_Im_setWord_23 : decode b_Im_setWord 23 = .ok (.aload_n 0, 1) := by decide +kernel
theorem d_Im_setWord_24 : decode b_Im_setWord 24 = .ok (.getfield 9, 3) := by decide +kernel
theorem d_Im_setWord_27 : decode b_Im_setWord 27 = .ok (.iload 5, 2) := by decide +kernel
theorem d_Im_setWord_29 : decode b_Im_setWord 29 = .ok (.lload_n 3, 1) := by decide +kernel
theorem d_Im_setWord_30 : decode b_Im_setWord 30 = .ok (.lastore, 1) := by decide +kernel
theorem d_Im_setWord_31 : decode b_Im_setWord 31 = .ok (.return_, 1) := by decide +kernel
theorem d_Im_byteAt_0 : decode b_Im_byteAt 0 = .ok (.iload_n 1, 1) := by decide +kernel
theorem d_Im_byteAt_1 : decode b_Im_byteAt 1 = .ok (.bipush 16, 2) := by decide +kernel
theorem d_Im_byteAt_3 : decode b_Im_byteAt 3 = .ok (.imul, 1) := by decide +kernel
theorem d_Im_byteAt_4 : decode b_Im_byteAt 4 = .ok (.iload_n 2, 1) := by decide +kernel
theorem d_Im_byteAt_5 : decode b_Im_byteAt 5 = .ok (.iconst 3, 1) := by decide +kernel
theorem d_Im_byteAt_6 : decode b_Im_byteAt 6 = .ok (.ishr, 1) := by decide +kernel
theorem d_Im_byteAt_7 : decode b_Im_byteAt 7 = .ok (.iadd, 1) := by decide +kernel
theorem d_Im_byteAt_8 : decode b_Im_byteAt 8 = .ok (.istore_n 3, 1) := by decide +kernel
theorem d_Im_byteAt_9 : decode b_Im_byteAt 9 = .ok (.iload_n 3, 1) := by decide +kernel
theorem d_Im_byteAt_10 : decode b_Im_byteAt 10 = .ok (.ifCond .lt 33, 3) := by decide +kernel
theorem d_Im_byteAt_13 : decode b_Im_byteAt 13 = .ok (.iload_n 3, 1) := by decide +kernel
theorem d_Im_byteAt_14 : decode b_Im_byteAt 14 = .ok (.aload_n 0, 1) := by decide +kernel
theorem d_Im_byteAt_15 : decode b_Im_byteAt 15 = .ok (.getfield 9, 3) := by decide +kernel
theorem d_Im_byteAt_18 : decode b_Im_byteAt 18 = .ok (.arraylength, 1) := by decide +kernel
theorem d_Im_byteAt_19 : decode b_Im_byteAt 19 = .ok (.if_icmp .ge 24, 3) := by decide +kernel
theorem d_Im_byteAt_22 : decode b_Im_byteAt 22 = .ok (.aload_n 0, 1) := by decide +kernel
theorem d_Im_byteAt_23 : decode b_Im_byteAt 23 = .ok (.getfield 9, 3) := by decide +kernel
theorem d_Im_byteAt_26 : decode b_Im_byteAt 26 = .ok (.iload_n 3, 1) := by decide +kernel
theorem d_Im_byteAt_27 : decode b_Im_byteAt 27 = .ok (.laload, 1) := by decide +kernel
theorem d_Im_byteAt_28 : decode b_Im_byteAt 28 = .ok (.iload_n 2, 1) := by decide +kernel
theorem d_Im_byteAt_29 : decode b_Im_byteAt 29 = .ok (.bipush 7, 2) := by decide +kernel
theorem d_Im_byteAt_31 : decode b_Im_byteAt 31 = .ok (.iand, 1) := by decide +kernel
theorem d_Im_byteAt_32 : decode b_Im_byteAt 32 = .ok (.iconst 3, 1) := by decide +kernel
theorem d_Im_byteAt_33 : decode b_Im_byteAt 33 = .ok (.ishl, 1) := by decide +kernel
theorem d_Im_byteAt_34 : decode b_Im_byteAt 34 = .ok (.lushr, 1) := by decide +kernel
theorem d_Im_byteAt_35 : decode b_Im_byteAt 35 = .ok (.l2i, 1) := by decide +kernel
theorem d_Im_byteAt_36 : decode b_Im_byteAt 36 = .ok (.sipush 255, 3) := by decide +kernel
theorem d_Im_byteAt_39 : decode b_Im_byteAt 39 = .ok (.iand, 1) := by decide +kernel
theorem d_Im_byteAt_40 : decode b_Im_byteAt 40 = .ok (.goto 4, 3) := by decide +kernel
theorem d_Im_byteAt_43 : decode b_Im_byteAt 43 = .ok (.iconst 0, 1) := by decide +kernel
theorem d_Im_byteAt_44 : decode b_Im_byteAt 44 = .ok (.ireturn, 1) := by decide +kernel
theorem d_Im_setByte_0 : decode b_Im_setByte 0 = .ok (.iload_n 1, 1) := by decide +kernel
theorem d_Im_setByte_1 : decode b_Im_setByte 1 = .ok (.bipush 16, 2) := by decide +kernel
theorem d_Im_setByte_3 : decode b_Im_setByte 3 = .ok (.imul, 1) := by decide +kernel
theorem d_Im_setByte_4 : decode b_Im_setByte 4 = .ok (.iload_n 2, 1) := by decide +kernel
theorem d_Im_setByte_5 : decode b_Im_setByte 5 = .ok (.iconst 3, 1) := by decide +kernel
theorem d_Im_setByte_6 : decode b_Im_setByte 6 = .ok (.ishr, 1) := by decide +kernel
theorem d_Im_setByte_7 : decode b_Im_setByte 7 = .ok (.iadd, 1) := by decide +kernel
theorem d_Im_setByte_8 : decode b_Im_setByte 8 = .ok (.istore 4, 2) := by decide +kernel
theorem d_Im_setByte_10 : decode b_Im_setByte 10 = .ok (.iload_n 2, 1) := by decide +kernel
theorem d_Im_setByte_11 : decode b_Im_setByte 11 = .ok (.bipush 7, 2) := by decide +kernel
theorem d_Im_setByte_13 : decode b_Im_setByte 13 = .ok (.iand, 1) := by decide +kernel
theorem d_Im_setByte_14 : decode b_Im_setByte 14 = .ok (.iconst 3, 1) := by decide +kernel
theorem d_Im_setByte_15 : decode b_Im_setByte 15 = .ok (.ishl, 1) := by decide +kernel
theorem d_Im_setByte_16 : decode b_Im_setByte 16 = .ok (.istore 5, 2) := by decide +kernel
theorem d_Im_setByte_18 : decode b_Im_setByte 18 = .ok (.iload 4, 2) := by decide +kernel
theorem d_Im_setByte_20 : decode b_Im_setByte 20 = .ok (.ifCond .lt 48, 3) := by decide +kernel
theorem d_Im_setByte_23 : decode b_Im_setByte 23 = .ok (.iload 4, 2) := by decide +kernel
theorem d_Im_setByte_25 : decode b_Im_setByte 25 = .ok (.aload_n 0, 1) := by decide +kernel
theorem d_Im_setByte_26 : decode b_Im_setByte 26 = .ok (.getfield 9, 3) := by decide +kernel
theorem d_Im_setByte_29 : decode b_Im_setByte 29 = .ok (.arraylength, 1) := by decide +kernel
theorem d_Im_setByte_30 : decode b_Im_setByte 30 = .ok (.if_icmp .ge 38, 3) := by decide +kernel
theorem d_Im_setByte_33 : decode b_Im_setByte 33 = .ok (.aload_n 0, 1) := by decide +kernel
theorem d_Im_setByte_34 : decode b_Im_setByte 34 = .ok (.getfield 9, 3) := by decide +kernel
theorem d_Im_setByte_37 : decode b_Im_setByte 37 = .ok (.iload 4, 2) := by decide +kernel
theorem d_Im_setByte_39 : decode b_Im_setByte 39 = .ok (.aload_n 0, 1) := by decide +kernel
theorem d_Im_setByte_40 : decode b_Im_setByte 40 = .ok (.getfield 9, 3) := by decide +kernel
theorem d_Im_setByte_43 : decode b_Im_setByte 43 = .ok (.iload 4, 2) := by decide +kernel
theorem d_Im_setByte_45 : decode b_Im_setByte 45 = .ok (.laload, 1) := by decide +kernel
theorem d_Im_setByte_46 : decode b_Im_setByte 46 = .ok (.ldc2_w 15, 3) := by decide +kernel
theorem d_Im_setByte_49 : decode b_Im_setByte 49 = .ok (.iload 5, 2) := by decide +kernel
theorem d_Im_setByte_51 : decode b_Im_setByte 51 = .ok (.lshl, 1) := by decide +kernel
theorem d_Im_setByte_52 : decode b_Im_setByte 52 = .ok (.ldc2_w 17, 3) := by decide +kernel
theorem d_Im_setByte_55 : decode b_Im_setByte 55 = .ok (.lxor, 1) := by decide +kernel
theorem d_Im_setByte_56 : decode b_Im_setByte 56 = .ok (.land, 1) := by decide +kernel
theorem d_Im_setByte_57 : decode b_Im_setByte 57 = .ok (.iload_n 3, 1) := by decide +kernel
theorem d_Im_setByte_58 : decode b_Im_setByte 58 = .ok (.i2l, 1) := by decide +kernel
theorem d_Im_setByte_59 : decode b_Im_setByte 59 = .ok (.ldc2_w 15, 3) := by decide +kernel
theorem d_Im_setByte_62 : decode b_Im_setByte 62 = .ok (.land, 1) := by decide +kernel
theorem d_Im_setByte_63 : decode b_Im_setByte 63 = .ok (.iload 5, 2) := by decide +kernel
theorem d_Im_setByte_65 : decode b_Im_setByte 65 = .ok (.lshl, 1) := by decide +kernel
theorem d_Im_setByte_66 : decode b_Im_setByte 66 = .ok (.lor, 1) := by decide +kernel
theorem d_Im_setByte_67 : decode b_Im_setByte 67 = .ok (.lastore, 1) := by decide +kernel
theorem d_Im_setByte_68 : decode b_Im_setByte 68 = .ok (.return_, 1) := by decide +kernel
theorem d_Im_linkAt_0 : decode b_Im_linkAt 0 = .ok (.aload_n 0, 1) := by decide +kernel
theorem d_Im_linkAt_1 : decode b_Im_linkAt 1 = .ok (.iload_n 1, 1) := by decide +kernel
theorem d_Im_linkAt_2 : decode b_Im_linkAt 2 = .ok (.iload_n 2, 1) := by decide +kernel
theorem d_Im_linkAt_3 : decode b_Im_linkAt 3 = .ok (.iconst 2, 1) := by decide +kernel
theorem d_Im_linkAt_4 : decode b_Im_linkAt 4 = .ok (.ishr, 1) := by decide +kernel
theorem d_Im_linkAt_5 : decode b_Im_linkAt 5 = .ok (.invokevirtual 19, 3) := by decide +kernel
theorem d_Im_linkAt_8 : decode b_Im_linkAt 8 = .ok (.iload_n 2, 1) := by decide +kernel
theorem d_Im_linkAt_9 : decode b_Im_linkAt 9 = .ok (.iconst 3, 1) := by decide +kernel
theorem d_Im_linkAt_10 : decode b_Im_linkAt 10 = .ok (.iand, 1) := by decide +kernel
theorem d_Im_linkAt_11 : decode b_Im_linkAt 11 = .ok (.iconst 4, 1) := by decide +kernel
theorem d_Im_linkAt_12 : decode b_Im_linkAt 12 = .ok (.ishl, 1) := by decide +kernel
theorem d_Im_linkAt_13 : decode b_Im_linkAt 13 = .ok (.lushr, 1) := by decide +kernel
theorem d_Im_linkAt_14 : decode b_Im_linkAt 14 = .ok (.l2i, 1) := by decide +kernel
theorem d_Im_linkAt_15 : decode b_Im_linkAt 15 = .ok (.ldc 23, 2) := by decide +kernel
theorem d_Im_linkAt_17 : decode b_Im_linkAt 17 = .ok (.iand, 1) := by decide +kernel
theorem d_Im_linkAt_18 : decode b_Im_linkAt 18 = .ok (.ireturn, 1) := by decide +kernel
theorem d_Im_setLink_0 : decode b_Im_setLink 0 = .ok (.iload_n 2, 1) := by decide +kernel
theorem d_Im_setLink_1 : decode b_Im_setLink 1 = .ok (.iconst 3, 1) := by decide +kernel
theorem d_Im_setLink_2 : decode b_Im_setLink 2 = .ok (.iand, 1) := by decide +kernel
theorem d_Im_setLink_3 : decode b_Im_setLink 3 = .ok (.iconst 4, 1) := by decide +kernel
theorem d_Im_setLink_4 : decode b_Im_setLink 4 = .ok (.ishl, 1) := by decide +kernel
theorem d_Im_setLink_5 : decode b_Im_setLink 5 = .ok (.istore 4, 2) := by decide +kernel
theorem d_Im_setLink_7 : decode b_Im_setLink 7 = .ok (.aload_n 0, 1) := by decide +kernel
theorem d_Im_setLink_8 : decode b_Im_setLink 8 = .ok (.iload_n 1, 1) := by decide +kernel
theorem d_Im_setLink_9 : decode b_Im_setLink 9 = .ok (.iload_n 2, 1) := by decide +kernel
theorem d_Im_setLink_10 : decode b_Im_setLink 10 = .ok (.iconst 2, 1) := by decide +kernel
theorem d_Im_setLink_11 : decode b_Im_setLink 11 = .ok (.ishr, 1) := by decide +kernel
theorem d_Im_setLink_12 : decode b_Im_setLink 12 = .ok (.invokevirtual 19, 3) := by decide +kernel
theorem d_Im_setLink_15 : decode b_Im_setLink 15 = .ok (.ldc2_w 24, 3) := by decide +kernel
theorem d_Im_setLink_18 : decode b_Im_setLink 18 = .ok (.iload 4, 2) := by decide +kernel
theorem d_Im_setLink_20 : decode b_Im_setLink 20 = .ok (.lshl, 1) := by decide +kernel
theorem d_Im_setLink_21 : decode b_Im_setLink 21 = .ok (.ldc2_w 17, 3) := by decide +kernel
theorem d_Im_setLink_24 : decode b_Im_setLink 24 = .ok (.lxor, 1) := by decide +kernel
theorem d_Im_setLink_25 : decode b_Im_setLink 25 = .ok (.land, 1) := by decide +kernel
theorem d_Im_setLink_26 : decode b_Im_setLink 26 = .ok (.lstore 5, 2) := by decide +kernel
theorem d_Im_setLink_28 : decode b_Im_setLink 28 = .ok (.aload_n 0, 1) := by decide +kernel
theorem d_Im_setLink_29 : decode b_Im_setLink 29 = .ok (.iload_n 1, 1) := by decide +kernel
theorem d_Im_setLink_30 : decode b_Im_setLink 30 = .ok (.iload_n 2, 1) := by decide +kernel
theorem d_Im_setLink_31 : decode b_Im_setLink 31 = .ok (.iconst 2, 1) := by decide +kernel
theorem d_Im_setLink_32 : decode b_Im_setLink 32 = .ok (.ishr, 1) := by decide +kernel
theorem d_Im_setLink_33 : decode b_Im_setLink 33 = .ok (.lload 5, 2) := by decide +kernel
theorem d_Im_setLink_35 : decode b_Im_setLink 35 = .ok (.iload_n 3, 1) := by decide +kernel
theorem d_Im_setLink_36 : decode b_Im_setLink 36 = .ok (.i2l, 1) := by decide +kernel
theorem d_Im_setLink_37 : decode b_Im_setLink 37 = .ok (.ldc2_w 24, 3) := by decide +kernel
theorem d_Im_setLink_40 : decode b_Im_setLink 40 = .ok (.land, 1) := by decide +kernel
theorem d_Im_setLink_41 : decode b_Im_setLink 41 = .ok (.iload 4, 2) := by decide +kernel
theorem d_Im_setLink_43 : decode b_Im_setLink 43 = .ok (.lshl, 1) := by decide +kernel
theorem d_Im_setLink_44 : decode b_Im_setLink 44 = .ok (.lor, 1) := by decide +kernel
theorem d_Im_setLink_45 : decode b_Im_setLink 45 = .ok (.invokevirtual 26, 3) := by decide +kernel
theorem d_Im_setLink_48 : decode b_Im_setLink 48 = .ok (.return_, 1) := by decide +kernel
theorem d_Im_sizeAt_0 : decode b_Im_sizeAt 0 = .ok (.aload_n 0, 1) := by decide +kernel
theorem d_Im_sizeAt_1 : decode b_Im_sizeAt 1 = .ok (.iload_n 1, 1) := by decide +kernel
theorem d_Im_sizeAt_2 : decode b_Im_sizeAt 2 = .ok (.bipush 15, 2) := by decide +kernel
theorem d_Im_sizeAt_4 : decode b_Im_sizeAt 4 = .ok (.invokevirtual 19, 3) := by decide +kernel
theorem d_Im_sizeAt_7 : decode b_Im_sizeAt 7 = .ok (.l2i, 1) := by decide +kernel
theorem d_Im_sizeAt_8 : decode b_Im_sizeAt 8 = .ok (.ireturn, 1) := by decide +kernel
theorem d_Im_addSize_0 : decode b_Im_addSize 0 = .ok (.aload_n 0, 1) := by decide +kernel
theorem d_Im_addSize_1 : decode b_Im_addSize 1 = .ok (.iload_n 1, 1) := by decide +kernel
theorem d_Im_addSize_2 : decode b_Im_addSize 2 = .ok (.bipush 15, 2) := by decide +kernel
theorem d_Im_addSize_4 : decode b_Im_addSize 4 = .ok (.aload_n 0, 1) := by decide +kernel
theorem d_Im_addSize_5 : decode b_Im_addSize 5 = .ok (.iload_n 1, 1) := by decide +kernel
theorem d_Im_addSize_6 : decode b_Im_addSize 6 = .ok (.bipush 15, 2) := by decide +kernel
theorem d_Im_addSize_8 : decode b_Im_addSize 8 = .ok (.invokevirtual 19, 3) := by decide +kernel
theorem d_Im_addSize_11 : decode b_Im_addSize 11 = .ok (.iload_n 2, 1) := by decide +kernel
theorem d_Im_addSize_12 : decode b_Im_addSize 12 = .ok (.i2l, 1) := by decide +kernel
theorem d_Im_addSize_13 : decode b_Im_addSize 13 = .ok (.ladd, 1) := by decide +kernel
theorem d_Im_addSize_14 : decode b_Im_addSize 14 = .ok (.invokevirtual 26, 3) := by decide +kernel
theorem d_Im_addSize_17 : decode b_Im_addSize 17 = .ok (.return_, 1) := by decide +kernel
theorem d_Im_blank_0 : decode b_Im_blank 0 = .ok (.iconst 0, 1) := by decide +kernel
theorem d_Im_blank_1 : decode b_Im_blank 1 = .ok (.istore_n 2, 1) := by decide +kernel
theorem d_Im_blank_2 : decode b_Im_blank 2 = .ok (.iload_n 2, 1) := by decide +kernel
theorem d_Im_blank_3 : decode b_Im_blank 3 = .ok (.bipush 16, 2) := by decide +kernel
theorem d_Im_blank_5 : decode b_Im_blank 5 = .ok (.if_icmp .ge 16, 3) := by decide +kernel
theorem d_Im_blank_8 : decode b_Im_blank 8 = .ok (.aload_n 0, 1) := by decide +kernel
theorem d_Im_blank_9 : decode b_Im_blank 9 = .ok (.iload_n 1, 1) := by decide +kernel
theorem d_Im_blank_10 : decode b_Im_blank 10 = .ok (.iload_n 2, 1) := by decide +kernel
theorem d_Im_blank_11 : decode b_Im_blank 11 = .ok (.lconst 0, 1) := by decide +kernel
theorem d_Im_blank_12 : decode b_Im_blank 12 = .ok (.invokevirtual 26, 3) := by decide +kernel
theorem d_Im_blank_15 : decode b_Im_blank 15 = .ok (.iinc 2 1, 3) := by decide +kernel
theorem d_Im_blank_18 : decode b_Im_blank 18 = .ok (.goto (-16), 3) := by decide +kernel
theorem d_Im_blank_21 : decode b_Im_blank 21 = .ok (.return_, 1) := by decide +kernel
theorem d_Im_duplicate_0 : decode b_Im_duplicate 0 = .ok (.iconst 0, 1) := by decide +kernel
theorem d_Im_duplicate_1 : decode b_Im_duplicate 1 = .ok (.istore_n 3, 1) := by decide +kernel
theorem d_Im_duplicate_2 : decode b_Im_duplicate 2 = .ok (.iload_n 3, 1) := by decide +kernel
theorem d_Im_duplicate_3 : decode b_Im_duplicate 3 = .ok (.bipush 16, 2) := by decide +kernel
theorem d_Im_duplicate_5 : decode b_Im_duplicate 5 = .ok (.if_icmp .ge 21, 3) := by decide +kernel
theorem d_Im_duplicate_8 : decode b_Im_duplicate 8 = .ok (.aload_n 0, 1) := by decide +kernel
theorem d_Im_duplicate_9 : decode b_Im_duplicate 9 = .ok (.iload_n 2, 1) := by decide +kernel
theorem d_Im_duplicate_10 : decode b_Im_duplicate 10 = .ok (.iload_n 3, 1) := by decide +kernel
theorem d_Im_duplicate_11 : decode b_Im_duplicate 11 = .ok (.aload_n 0, 1) := by decide +kernel
theorem d_Im_duplicate_12 : decode b_Im_duplicate 12 = .ok (.iload_n 1, 1) := by decide +kernel
theorem d_Im_duplicate_13 : decode b_Im_duplicate 13 = .ok (.iload_n 3, 1) := by decide +kernel
theorem d_Im_duplicate_14 : decode b_Im_duplicate 14 = .ok (.invokevirtual 19, 3) := by decide +kernel
theorem d_Im_duplicate_17 : decode b_Im_duplicate 17 = .ok (.invokevirtual 26, 3) := by decide +kernel
theorem d_Im_duplicate_20 : decode b_Im_duplicate 20 = .ok (.iinc 3 1, 3) := by decide +kernel
theorem d_Im_duplicate_23 : decode b_Im_duplicate 23 = .ok (.goto (-21), 3) := by decide +kernel
theorem d_Im_duplicate_26 : decode b_Im_duplicate 26 = .ok (.return_, 1) := by decide +kernel
theorem d_Im_receive_0 : decode b_Im_receive 0 = .ok (.iload_n 3, 1) := by decide +kernel
theorem d_Im_receive_1 : decode b_Im_receive 1 = .ok (.iconst 1, 1) := by decide +kernel
theorem d_Im_receive_2 : decode b_Im_receive 2 = .ok (.if_icmp .eq 8, 3) := by decide +kernel
theorem d_Im_receive_5 : decode b_Im_receive 5 = .ok (.iload_n 3, 1) := by decide +kernel
theorem d_Im_receive_6 : decode b_Im_receive 6 = .ok (.iconst 2, 1) := by decide +kernel
theorem d_Im_receive_7 : decode b_Im_receive 7 = .ok (.if_icmp .ne 7, 3) := by decide +kernel
theorem d_Im_receive_10 : decode b_Im_receive 10 = .ok (.iconst 1, 1) := by decide +kernel
theorem d_Im_receive_11 : decode b_Im_receive 11 = .ok (.goto 4, 3) := by decide +kernel
theorem d_Im_receive_14 : decode b_Im_receive 14 = .ok (.iconst 0, 1) := by decide +kernel
theorem d_Im_receive_15 : decode b_Im_receive 15 = .ok (.istore 4, 2) := by decide +kernel
theorem d_Im_receive_17 : decode b_Im_receive 17 = .ok (.iload_n 3, 1) := by decide +kernel
theorem d_Im_receive_18 : decode b_Im_receive 18 = .ok (.iconst 1, 1) := by decide +kernel
theorem d_Im_receive_19 : decode b_Im_receive 19 = .ok (.if_icmp .eq 8, 3) := by decide +kernel
theorem d_Im_receive_22 : decode b_Im_receive 22 = .ok (.iload_n 3, 1) := by decide +kernel
theorem d_Im_receive_23 : decode b_Im_receive 23 = .ok (.iconst 3, 1) := by decide +kernel
theorem d_Im_receive_24 : decode b_Im_receive 24 = .ok (.if_icmp .ne 7, 3) := by decide +kernel
theorem d_Im_receive_27 : decode b_Im_receive 27 = .ok (.iconst 1, 1) := by decide +kernel
theorem d_Im_receive_28 : decode b_Im_receive 28 = .ok (.goto 4, 3) := by decide +kernel
theorem d_Im_receive_31 : decode b_Im_receive 31 = .ok (.iconst 0, 1) := by decide +kernel
theorem d_Im_receive_32 : decode b_Im_receive 32 = .ok (.istore 5, 2) := by decide +kernel
theorem d_Im_receive_34 : decode b_Im_receive 34 = .ok (.iload 4, 2) := by decide +kernel
theorem d_Im_receive_36 : decode b_Im_receive 36 = .ok (.ifCond .eq 7, 3) := by decide +kernel
theorem d_Im_receive_39 : decode b_Im_receive 39 = .ok (.iconst 0, 1) := by decide +kernel
theorem d_Im_receive_40 : decode b_Im_receive 40 = .ok (.goto 5, 3) := by decide +kernel
theorem d_Im_receive_43 : decode b_Im_receive 43 = .ok (.bipush 8, 2) := by decide +kernel
theorem d_Im_receive_45 : decode b_Im_receive 45 = .ok (.istore 6, 2) := by decide +kernel
theorem d_Im_receive_47 : decode b_Im_receive 47 = .ok (.iload 6, 2) := by decide +kernel
theorem d_Im_receive_49 : decode b_Im_receive 49 = .ok (.iload 5, 2) := by decide +kernel
theorem d_Im_receive_51 : decode b_Im_receive 51 = .ok (.ifCond .eq 8, 3) := by decide +kernel
theorem d_Im_receive_54 : decode b_Im_receive 54 = .ok (.bipush 16, 2) := by decide +kernel
theorem d_Im_receive_56 : decode b_Im_receive 56 = .ok (.goto 5, 3) := by decide +kernel
theorem d_Im_receive_59 : decode b_Im_receive 59 = .ok (.bipush 8, 2) := by decide +kernel
theorem d_Im_receive_61 : decode b_Im_receive 61 = .ok (.if_icmp .ge 23, 3) := by decide +kernel
theorem d_Im_receive_64 : decode b_Im_receive 64 = .ok (.aload_n 0, 1) := by decide +kernel
theorem d_Im_receive_65 : decode b_Im_receive 65 = .ok (.iload_n 2, 1) := by decide +kernel
theorem d_Im_receive_66 : decode b_Im_receive 66 = .ok (.iload 6, 2) := by decide +kernel
theorem d_Im_receive_68 : decode b_Im_receive 68 = .ok (.aload_n 1, 1) := by decide +kernel
theorem d_Im_receive_69 : decode b_Im_receive 69 = .ok (.iload_n 2, 1) := by decide +kernel
theorem d_Im_receive_70 : decode b_Im_receive 70 = .ok (.iload 6, 2) := by decide +kernel
theorem d_Im_receive_72 : decode b_Im_receive 72 = .ok (.invokevirtual 19, 3) := by decide +kernel
theorem d_Im_receive_75 : decode b_Im_receive 75 = .ok (.invokevirtual 26, 3) := by decide +kernel
theorem d_Im_receive_78 : decode b_Im_receive 78 = .ok (.iinc 6 1, 3) := by decide +kernel
theorem d_Im_receive_81 : decode b_Im_receive 81 = .ok (.goto (-34), 3) := by decide +kernel
theorem d_Im_receive_84 : decode b_Im_receive 84 = .ok (.return_, 1) := by decide +kernel
theorem d_Im_forgetAll_0 : decode b_Im_forgetAll 0 = .ok (.aload_n 0, 1) := by decide +kernel
theorem d_Im_forgetAll_1 : decode b_Im_forgetAll 1 = .ok (.getfield 9, 3) := by decide +kernel
theorem d_Im_forgetAll_4 : decode b_Im_forgetAll 4 = .ok (.lconst 0, 1) := by decide +kernel
theorem d_Im_forgetAll_5 : decode b_Im_forgetAll 5 = .ok (.invokestatic 30, 3) := by decide +kernel
theorem d_Im_forgetAll_8 : decode b_Im_forgetAll 8 = .ok (.return_, 1) := by decide +kernel
theorem d_Im_receiveAll_0 : decode b_Im_receiveAll 0 = .ok (.aload_n 1, 1) := by decide +kernel
theorem d_Im_receiveAll_1 : decode b_Im_receiveAll 1 = .ok (.getfield 9, 3) := by decide +kernel
theorem d_Im_receiveAll_4 : decode b_Im_receiveAll 4 = .ok (.iconst 0, 1) := by decide +kernel
theorem d_Im_receiveAll_5 : decode b_Im_receiveAll 5 = .ok (.aload_n 0, 1) := by decide +kernel
theorem d_Im_receiveAll_6 : decode b_Im_receiveAll 6 = .ok (.getfield 9, 3) := by decide +kernel
theorem d_Im_receiveAll_9 : decode b_Im_receiveAll 9 = .ok (.iconst 0, 1) := by decide +kernel
theorem d_Im_receiveAll_10 : decode b_Im_receiveAll 10 = .ok (.aload_n 0, 1) := by decide +kernel
theorem d_Im_receiveAll_11 : decode b_Im_receiveAll 11 = .ok (.getfield 9, 3) := by decide +kernel
theorem d_Im_receiveAll_14 : decode b_Im_receiveAll 14 = .ok (.arraylength, 1) := by decide +kernel
theorem d_Im_receiveAll_15 : decode b_Im_receiveAll 15 = .ok (.invokestatic 36, 3) := by decide +kernel
theorem d_Im_receiveAll_18 : decode b_Im_receiveAll 18 = .ok (.return_, 1) := by decide +kernel
theorem d_Tb_init_0 : decode b_Tb_init 0 = .ok (.aload_n 0, 1) := by decide +kernel
theorem d_Tb_init_1 : decode b_Tb_init 1 = .ok (.invokespecial 3, 3) := by decide +kernel
theorem d_Tb_init_4 : decode b_Tb_init 4 = .ok (.aload_n 0, 1) := by decide +kernel
theorem d_Tb_init_5 : decode b_Tb_init 5 = .ok (.aload_n 1, 1) := by decide +kernel
theorem d_Tb_init_6 : decode b_Tb_init 6 = .ok (.putfield 9, 3) := by decide +kernel
theorem d_Tb_init_9 : decode b_Tb_init 9 = .ok (.aload_n 0, 1) := by decide +kernel
theorem d_Tb_init_10 : decode b_Tb_init 10 = .ok (.iload_n 2, 1) := by decide +kernel
theorem d_Tb_init_11 : decode b_Tb_init 11 = .ok (.invokestatic 15, 3) := by decide +kernel
theorem d_Tb_init_14 : decode b_Tb_init 14 = .ok (.putfield 19, 3) := by decide +kernel
theorem d_Tb_init_17 : decode b_Tb_init 17 = .ok (.return_, 1) := by decide +kernel
theorem d_Tb_startOf_0 : decode b_Tb_startOf 0 = .ok (.iconst 2, 1) := by decide +kernel
theorem d_Tb_startOf_1 : decode b_Tb_startOf 1 = .ok (.iload_n 0, 1) := by decide +kernel
theorem d_Tb_startOf_2 : decode b_Tb_startOf 2 = .ok (.bipush 7, 2) := by decide +kernel
theorem d_Tb_startOf_4 : decode b_Tb_startOf 4 = .ok (.imul, 1) := by decide +kernel
theorem d_Tb_startOf_5 : decode b_Tb_startOf 5 = .ok (.iadd, 1) := by decide +kernel
theorem d_Tb_startOf_6 : decode b_Tb_startOf 6 = .ok (.ireturn, 1) := by decide +kernel
theorem d_Tb_rootOf_0 : decode b_Tb_rootOf 0 = .ok (.aload_n 0, 1) := by decide +kernel
theorem d_Tb_rootOf_1 : decode b_Tb_rootOf 1 = .ok (.getfield 9, 3) := by decide +kernel
theorem d_Tb_rootOf_4 : decode b_Tb_rootOf 4 = .ok (.aload_n 0, 1) := by decide +kernel
theorem d_Tb_rootOf_5 : decode b_Tb_rootOf 5 = .ok (.getfield 19, 3) := by decide +kernel
theorem d_Tb_rootOf_8 : decode b_Tb_rootOf 8 = .ok (.iload_n 1, 1) := by decide +kernel
theorem d_Tb_rootOf_9 : decode b_Tb_rootOf 9 = .ok (.invokevirtual 23, 3) := by decide +kernel
theorem d_Tb_rootOf_12 : decode b_Tb_rootOf 12 = .ok (.ireturn, 1) := by decide +kernel
theorem d_Tb_setRoot_0 : decode b_Tb_setRoot 0 = .ok (.aload_n 0, 1) := by decide +kernel
theorem d_Tb_setRoot_1 : decode b_Tb_setRoot 1 = .ok (.getfield 9, 3) := by decide +kernel
theorem d_Tb_setRoot_4 : decode b_Tb_setRoot 4 = .ok (.aload_n 0, 1) := by decide +kernel
theorem d_Tb_setRoot_5 : decode b_Tb_setRoot 5 = .ok (.getfield 19, 3) := by decide +kernel
theorem d_Tb_setRoot_8 : decode b_Tb_setRoot 8 = .ok (.iload_n 1, 1) := by decide +kernel
theorem d_Tb_setRoot_9 : decode b_Tb_setRoot 9 = .ok (.iload_n 2, 1) := by decide +kernel
theorem d_Tb_setRoot_10 : decode b_Tb_setRoot 10 = .ok (.invokevirtual 29, 3) := by decide +kernel
theorem d_Tb_setRoot_13 : decode b_Tb_setRoot 13 = .ok (.return_, 1) := by decide +kernel
theorem d_Tb_noteAt_0 : decode b_Tb_noteAt 0 = .ok (.aload_n 0, 1) := by decide +kernel
theorem d_Tb_noteAt_1 : decode b_Tb_noteAt 1 = .ok (.getfield 9, 3) := by decide +kernel
theorem d_Tb_noteAt_4 : decode b_Tb_noteAt 4 = .ok (.aload_n 0, 1) := by decide +kernel
theorem d_Tb_noteAt_5 : decode b_Tb_noteAt 5 = .ok (.getfield 19, 3) := by decide +kernel
theorem d_Tb_noteAt_8 : decode b_Tb_noteAt 8 = .ok (.bipush 32, 2) := by decide +kernel
theorem d_Tb_noteAt_10 : decode b_Tb_noteAt 10 = .ok (.iload_n 1, 1) := by decide +kernel
theorem d_Tb_noteAt_11 : decode b_Tb_noteAt 11 = .ok (.iadd, 1) := by decide +kernel
theorem d_Tb_noteAt_12 : decode b_Tb_noteAt 12 = .ok (.invokevirtual 33, 3) := by decide +kernel
theorem d_Tb_noteAt_15 : decode b_Tb_noteAt 15 = .ok (.ireturn, 1) := by decide +kernel
theorem d_Tb_setNote_0 : decode b_Tb_setNote 0 = .ok (.aload_n 0, 1) := by decide +kernel
theorem d_Tb_setNote_1 : decode b_Tb_setNote 1 = .ok (.getfield 9, 3) := by decide +kernel
theorem d_Tb_setNote_4 : decode b_Tb_setNote 4 = .ok (.aload_n 0, 1) := by decide +kernel
theorem d_Tb_setNote_5 : decode b_Tb_setNote 5 = .ok (.getfield 19, 3) := by decide +kernel
theorem d_Tb_setNote_8 : decode b_Tb_setNote 8 = .ok (.bipush 32, 2) := by decide +kernel
theorem d_Tb_setNote_10 : decode b_Tb_setNote 10 = .ok (.iload_n 1, 1) := by decide +kernel
theorem d_Tb_setNote_11 : decode b_Tb_setNote 11 = .ok (.iadd, 1) := by decide +kernel
theorem d_Tb_setNote_12 : decode b_Tb_setNote 12 = .ok (.iload_n 2, 1) := by decide +kernel
theorem d_Tb_setNote_13 : decode b_Tb_setNote 13 = .ok (.invokevirtual 36, 3) := by decide +kernel
theorem d_Tb_setNote_16 : decode b_Tb_setNote 16 = .ok (.return_, 1) := by decide +kernel
theorem d_Tb_waysTo_0 : decode b_Tb_waysTo 0 = .ok (.iload_n 1, 1) := by decide +kernel
theorem d_Tb_waysTo_1 : decode b_Tb_waysTo 1 = .ok (.bipush 16, 2) := by decide +kernel
theorem d_Tb_waysTo_3 : decode b_Tb_waysTo 3 = .ok (.isub, 1) := by decide +kernel
theorem d_Tb_waysTo_4 : decode b_Tb_waysTo 4 = .ok (.istore_n 2, 1) := by decide +kernel
theorem d_Tb_waysTo_5 : decode b_Tb_waysTo 5 = .ok (.iload_n 2, 1) := by decide +kernel
theorem d_Tb_waysTo_6 : decode b_Tb_waysTo 6 = .ok (.ifCond .lt 37, 3) := by decide +kernel
theorem d_Tb_waysTo_9 : decode b_Tb_waysTo 9 = .ok (.iload_n 2, 1) := by decide +kernel
theorem d_Tb_waysTo_10 : decode b_Tb_waysTo 10 = .ok (.sipush 768, 3) := by decide +kernel
theorem d_Tb_waysTo_13 : decode b_Tb_waysTo 13 = .ok (.if_icmp .ge 30, 3) := by decide +kernel
theorem d_Tb_waysTo_16 : decode b_Tb_waysTo 16 = .ok (.aload_n 0, 1) := by decide +kernel
theorem d_Tb_waysTo_17 : decode b_Tb_waysTo 17 = .ok (.getfield 9, 3) := by decide +kernel
theorem d_Tb_waysTo_20 : decode b_Tb_waysTo 20 = .ok (.aload_n 0, 1) := by decide +kernel
theorem d_Tb_waysTo_21 : decode b_Tb_waysTo 21 = .ok (.getfield 19, 3) := by decide +kernel
theorem d_Tb_waysTo_24 : decode b_Tb_waysTo 24 = .ok (.iconst 1, 1) := by decide +kernel
theorem d_Tb_waysTo_25 : decode b_Tb_waysTo 25 = .ok (.iadd, 1) := by decide +kernel
theorem d_Tb_waysTo_26 : decode b_Tb_waysTo 26 = .ok (.iload_n 2, 1) := by decide +kernel
theorem d_Tb_waysTo_27 : decode b_Tb_waysTo 27 = .ok (.sipush 128, 3) := by decide +kernel
theorem d_Tb_waysTo_30 : decode b_Tb_waysTo 30 = .ok (.idiv, 1) := by decide +kernel
theorem d_Tb_waysTo_31 : decode b_Tb_waysTo 31 = .ok (.iadd, 1) := by decide +kernel
theorem d_Tb_waysTo_32 : decode b_Tb_waysTo 32 = .ok (.iload_n 2, 1) := by decide +kernel
theorem d_Tb_waysTo_33 : decode b_Tb_waysTo 33 = .ok (.sipush 128, 3) := by decide +kernel
theorem d_Tb_waysTo_36 : decode b_Tb_waysTo 36 = .ok (.irem, 1) := by decide +kernel
theorem d_Tb_waysTo_37 : decode b_Tb_waysTo 37 = .ok (.invokevirtual 33, 3) := by decide +kernel
theorem d_Tb_waysTo_40 : decode b_Tb_waysTo 40 = .ok (.goto 4, 3) := by decide +kernel
theorem d_Tb_waysTo_43 : decode b_Tb_waysTo 43 = .ok (.iconst 0, 1) := by decide +kernel
theorem d_Tb_waysTo_44 : decode b_Tb_waysTo 44 = .ok (.ireturn, 1) := by decide +kernel
theorem d_Tb_setWays_0 : decode b_Tb_setWays 0 = .ok (.iload_n 1, 1) := by decide +kernel
theorem d_Tb_setWays_1 : decode b_Tb_setWays 1 = .ok (.bipush 16, 2) := by decide +kernel
theorem d_Tb_setWays_3 : decode b_Tb_setWays 3 = .ok (.isub, 1) := by decide +kernel
theorem d_Tb_setWays_4 : decode b_Tb_setWays 4 = .ok (.istore_n 3, 1) := by decide +kernel
theorem d_Tb_setWays_5 : decode b_Tb_setWays 5 = .ok (.iload_n 3, 1) := by decide +kernel
theorem d_Tb_setWays_6 : decode b_Tb_setWays 6 = .ok (.ifCond .lt 35, 3) := by decide +kernel
theorem d_Tb_setWays_9 : decode b_Tb_setWays 9 = .ok (.iload_n 3, 1) := by decide +kernel
theorem d_Tb_setWays_10 : decode b_Tb_setWays 10 = .ok (.sipush 768, 3) := by decide +kernel
theorem d_Tb_setWays_13 : decode b_Tb_setWays 13 = .ok (.if_icmp .ge 28, 3) := by decide +kernel
theorem d_Tb_setWays_16 : decode b_Tb_setWays 16 = .ok (.aload_n 0, 1) := by decide +kernel
theorem d_Tb_setWays_17 : decode b_Tb_setWays 17 = .ok (.getfield 9, 3) := by decide +kernel
theorem d_Tb_setWays_20 : decode b_Tb_setWays 20 = .ok (.aload_n 0, 1) := by decide +kernel
theorem d_Tb_setWays_21 : decode b_Tb_setWays 21 = .ok (.getfield 19, 3) := by decide +kernel
theorem d_Tb_setWays_24 : decode b_Tb_setWays 24 = .ok (.iconst 1, 1) := by decide +kernel
theorem d_Tb_setWays_25 : decode b_Tb_setWays 25 = .ok (.iadd, 1) := by decide +kernel
theorem d_Tb_setWays_26 : decode b_Tb_setWays 26 = .ok (.iload_n 3, 1) := by decide +kernel
theorem d_Tb_setWays_27 : decode b_Tb_setWays 27 = .ok (.sipush 128, 3) := by decide +kernel
theorem d_Tb_setWays_30 : decode b_Tb_setWays 30 = .ok (.idiv, 1) := by decide +kernel
theorem d_Tb_setWays_31 : decode b_Tb_setWays 31 = .ok (.iadd, 1) := by decide +kernel
theorem d_Tb_setWays_32 : decode b_Tb_setWays 32 = .ok (.iload_n 3, 1) := by decide +kernel
theorem d_Tb_setWays_33 : decode b_Tb_setWays 33 = .ok (.sipush 128, 3) := by decide +kernel
theorem d_Tb_setWays_36 : decode b_Tb_setWays 36 = .ok (.irem, 1) := by decide +kernel
theorem d_Tb_setWays_37 : decode b_Tb_setWays 37 = .ok (.iload_n 2, 1) := by decide +kernel
theorem d_Tb_setWays_38 : decode b_Tb_setWays 38 = .ok (.invokevirtual 36, 3) := by decide +kernel
theorem d_Tb_setWays_41 : decode b_Tb_setWays 41 = .ok (.return_, 1) := by decide +kernel
theorem d_Tb_becomeLike_0 : decode b_Tb_becomeLike 0 = .ok (.iconst 0, 1) := by decide +kernel
theorem d_Tb_becomeLike_1 : decode b_Tb_becomeLike 1 = .ok (.istore_n 2, 1) := by decide +kernel
theorem d_Tb_becomeLike_2 : decode b_Tb_becomeLike 2 = .ok (.iload_n 2, 1) := by decide +kernel
theorem d_Tb_becomeLike_3 : decode b_Tb_becomeLike 3 = .ok (.bipush 7, 2) := by decide +kernel
theorem d_Tb_becomeLike_5 : decode b_Tb_becomeLike 5 = .ok (.if_icmp .ge 28, 3) := by decide +kernel
theorem d_Tb_becomeLike_8 : decode b_Tb_becomeLike 8 = .ok (.aload_n 0, 1) := by decide +kernel
theorem d_Tb_becomeLike_9 : decode b_Tb_becomeLike 9 = .ok (.getfield 9, 3) := by decide +kernel
theorem d_Tb_becomeLike_12 : decode b_Tb_becomeLike 12 = .ok (.aload_n 1, 1) := by decide +kernel
theorem d_Tb_becomeLike_13 : decode b_Tb_becomeLike 13 = .ok (.getfield 19, 3) := by decide +kernel
theorem d_Tb_becomeLike_16 : decode b_Tb_becomeLike 16 = .ok (.iload_n 2, 1) := by decide +kernel
theorem d_Tb_becomeLike_17 : decode b_Tb_becomeLike 17 = .ok (.iadd, 1) := by decide +kernel
theorem d_Tb_becomeLike_18 : decode b_Tb_becomeLike 18 = .ok (.aload_n 0, 1) := by decide +kernel
theorem d_Tb_becomeLike_19 : decode b_Tb_becomeLike 19 = .ok (.getfield 19, 3) := by decide +kernel
theorem d_Tb_becomeLike_22 : decode b_Tb_becomeLike 22 = .ok (.iload_n 2, 1) := by decide +kernel
theorem d_Tb_becomeLike_23 : decode b_Tb_becomeLike 23 = .ok (.iadd, 1) := by decide +kernel
theorem d_Tb_becomeLike_24 : decode b_Tb_becomeLike 24 = .ok (.invokevirtual 39, 3) := by decide +kernel
theorem d_Tb_becomeLike_27 : decode b_Tb_becomeLike 27 = .ok (.iinc 2 1, 3) := by decide +kernel
theorem d_Tb_becomeLike_30 : decode b_Tb_becomeLike 30 = .ok (.goto (-28), 3) := by decide +kernel
theorem d_Tb_becomeLike_33 : decode b_Tb_becomeLike 33 = .ok (.return_, 1) := by decide +kernel
theorem d_Tr_init_0 : decode b_Tr_init 0 = .ok (.aload_n 0, 1) := by decide +kernel
theorem d_Tr_init_1 : decode b_Tr_init 1 = .ok (.invokespecial 3, 3) := by decide +kernel
theorem d_Tr_init_4 : decode b_Tr_init 4 = .ok (.aload_n 0, 1) := by decide +kernel
theorem d_Tr_init_5 : decode b_Tr_init 5 = .ok (.bipush 16, 2) := by decide +kernel
theorem d_Tr_init_7 : decode b_Tr_init 7 = .ok (.putfield 9, 3) := by decide +kernel
theorem d_Tr_init_10 : decode b_Tr_init 10 = .ok (.aload_n 0, 1) := by decide +kernel
theorem d_Tr_init_11 : decode b_Tr_init 11 = .ok (.aload_n 1, 1) := by decide +kernel
theorem d_Tr_init_12 : decode b_Tr_init 12 = .ok (.putfield 15, 3) := by decide +kernel
theorem d_Tr_init_15 : decode b_Tr_init 15 = .ok (.aload_n 0, 1) := by decide +kernel
theorem d_Tr_init_16 : decode b_Tr_init 16 = .ok (.new 19, 3) := by decide +kernel
theorem d_Tr_init_19 : decode b_Tr_init 19 = .ok (.dup, 1) := by decide +kernel
theorem d_Tr_init_20 : decode b_Tr_init 20 = .ok (.aload_n 1, 1) := by decide +kernel
theorem d_Tr_init_21 : decode b_Tr_init 21 = .ok (.iconst 0, 1) := by decide +kernel
theorem d_Tr_init_22 : decode b_Tr_init 22 = .ok (.invokespecial 21, 3) := by decide +kernel
theorem d_Tr_init_25 : decode b_Tr_init 25 = .ok (.putfield 24, 3) := by decide +kernel
theorem d_Tr_init_28 : decode b_Tr_init 28 = .ok (.aload_n 0, 1) := by decide +kernel
theorem d_Tr_init_29 : decode b_Tr_init 29 = .ok (.new 19, 3) := by decide +kernel
theorem d_Tr_init_32 : decode b_Tr_init 32 = .ok (.dup, 1) := by decide +kernel
theorem d_Tr_init_33 : decode b_Tr_init 33 = .ok (.aload_n 1, 1) := by decide +kernel
theorem d_Tr_init_34 : decode b_Tr_init 34 = .ok (.iconst 1, 1) := by decide +kernel
theorem d_Tr_init_35 : decode b_Tr_init 35 = .ok (.invokespecial 21, 3) := by decide +kernel
theorem d_Tr_init_38 : decode b_Tr_init 38 = .ok (.putfield 28, 3) := by decide +kernel
theorem d_Tr_init_41 : decode b_Tr_init 41 = .ok (.aload_n 0, 1) := by decide +kernel
theorem d_Tr_init_42 : decode b_Tr_init 42 = .ok (.aload_n 0, 1) := by decide +kernel
theorem d_Tr_init_43 : decode b_Tr_init 43 = .ok (.getfield 24, 3) := by decide +kernel
theorem d_Tr_init_46 : decode b_Tr_init 46 = .ok (.putfield 31, 3) := by decide +kernel
theorem d_Tr_init_49 : decode b_Tr_init 49 = .ok (.aload_n 0, 1) := by decide +kernel
theorem d_Tr_init_50 : decode b_Tr_init 50 = .ok (.aload_n 0, 1) := by decide +kernel
theorem d_Tr_init_51 : decode b_Tr_init 51 = .ok (.getfield 28, 3) := by decide +kernel
theorem d_Tr_init_54 : decode b_Tr_init 54 = .ok (.putfield 34, 3) := by decide +kernel
theorem d_Tr_init_57 : decode b_Tr_init 57 = .ok (.return_, 1) := by decide +kernel
theorem d_Tr_goOnFrom_0 : decode b_Tr_goOnFrom 0 = .ok (.aload_n 0, 1) := by decide +kernel
theorem d_Tr_goOnFrom_1 : decode b_Tr_goOnFrom 1 = .ok (.iload_n 1, 1) := by decide +kernel
theorem d_Tr_goOnFrom_2 : decode b_Tr_goOnFrom 2 = .ok (.ifCond .ne 10, 3) := by decide +kernel
theorem d_Tr_goOnFrom_5 : decode b_Tr_goOnFrom 5 = .ok (.aload_n 0, 1) := by decide +kernel
theorem d_Tr_goOnFrom_6 : decode b_Tr_goOnFrom 6 = .ok (.getfield 24, 3) := by decide +kernel
theorem d_Tr_goOnFrom_9 : decode b_Tr_goOnFrom 9 = .ok (.goto 7, 3) := by decide +kernel
theorem d_Tr_goOnFrom_12 : decode b_Tr_goOnFrom 12 = .ok (.aload_n 0, 1) := by decide +kernel
theorem d_Tr_goOnFrom_13 : decode b_Tr_goOnFrom 13 = .ok (.getfield 28, 3) := by decide +kernel
theorem d_Tr_goOnFrom_16 : decode b_Tr_goOnFrom 16 = .ok (.putfield 31, 3) := by decide +kernel
theorem d_Tr_goOnFrom_19 : decode b_Tr_goOnFrom 19 = .ok (.aload_n 0, 1) := by decide +kernel
theorem d_Tr_goOnFrom_20 : decode b_Tr_goOnFrom 20 = .ok (.iload_n 1, 1) := by decide +kernel
theorem d_Tr_goOnFrom_21 : decode b_Tr_goOnFrom 21 = .ok (.ifCond .ne 10, 3) := by decide +kernel
theorem d_Tr_goOnFrom_24 : decode b_Tr_goOnFrom 24 = .ok (.aload_n 0, 1) := by decide +kernel
theorem d_Tr_goOnFrom_25 : decode b_Tr_goOnFrom 25 = .ok (.getfield 28, 3) := by decide +kernel
theorem d_Tr_goOnFrom_28 : decode b_Tr_goOnFrom 28 = .ok (.goto 7, 3) := by decide +kernel
theorem d_Tr_goOnFrom_31 : decode b_Tr_goOnFrom 31 = .ok (.aload_n 0, 1) := by decide +kernel
theorem d_Tr_goOnFrom_32 : decode b_Tr_goOnFrom 32 = .ok (.getfield 24, 3) := by decide +kernel
theorem d_Tr_goOnFrom_35 : decode b_Tr_goOnFrom 35 = .ok (.putfield 34, 3) := by decide +kernel
theorem d_Tr_goOnFrom_38 : decode b_Tr_goOnFrom 38 = .ok (.aload_n 0, 1) := by decide +kernel
theorem d_Tr_goOnFrom_39 : decode b_Tr_goOnFrom 39 = .ok (.getfield 34, 3) := by decide +kernel
theorem d_Tr_goOnFrom_42 : decode b_Tr_goOnFrom 42 = .ok (.aload_n 0, 1) := by decide +kernel
theorem d_Tr_goOnFrom_43 : decode b_Tr_goOnFrom 43 = .ok (.getfield 31, 3) := by decide +kernel
theorem d_Tr_goOnFrom_46 : decode b_Tr_goOnFrom 46 = .ok (.invokevirtual 37, 3) := by decide +kernel
theorem d_Tr_goOnFrom_49 : decode b_Tr_goOnFrom 49 = .ok (.return_, 1) := by decide +kernel
theorem d_Tr_isNew_0 : decode b_Tr_isNew 0 = .ok (.aload_n 0, 1) := by decide +kernel
theorem d_Tr_isNew_1 : decode b_Tr_isNew 1 = .ok (.getfield 34, 3) := by decide +kernel
theorem d_Tr_isNew_4 : decode b_Tr_isNew 4 = .ok (.iload_n 1, 1) := by decide +kernel
theorem d_Tr_isNew_5 : decode b_Tr_isNew 5 = .ok (.invokevirtual 41, 3) := by decide +kernel
theorem d_Tr_isNew_8 : decode b_Tr_isNew 8 = .ok (.ifCond .le 18, 3) := by decide +kernel
theorem d_Tr_isNew_11 : decode b_Tr_isNew 11 = .ok (.aload_n 0, 1) := by decide +kernel
theorem d_Tr_isNew_12 : decode b_Tr_isNew 12 = .ok (.getfield 31, 3) := by decide +kernel
theorem d_Tr_isNew_15 : decode b_Tr_isNew 15 = .ok (.iload_n 1, 1) := by decide +kernel
theorem d_Tr_isNew_16 : decode b_Tr_isNew 16 = .ok (.invokevirtual 41, 3) := by decide +kernel
theorem d_Tr_isNew_19 : decode b_Tr_isNew 19 = .ok (.ifCond .ne 7, 3) := by decide +kernel
theorem d_Tr_isNew_22 : decode b_Tr_isNew 22 = .ok (.iconst 1, 1) := by decide +kernel
theorem d_Tr_isNew_23 : decode b_Tr_isNew 23 = .ok (.goto 4, 3) := by decide +kernel
theorem d_Tr_isNew_26 : decode b_Tr_isNew 26 = .ok (.iconst 0, 1) := by decide +kernel
theorem d_Tr_isNew_27 : decode b_Tr_isNew 27 = .ok (.ireturn, 1) := by decide +kernel
theorem d_Tr_sizeOf_0 : decode b_Tr_sizeOf 0 = .ok (.aload_n 0, 1) := by decide +kernel
theorem d_Tr_sizeOf_1 : decode b_Tr_sizeOf 1 = .ok (.getfield 34, 3) := by decide +kernel
theorem d_Tr_sizeOf_4 : decode b_Tr_sizeOf 4 = .ok (.iload_n 1, 1) := by decide +kernel
theorem d_Tr_sizeOf_5 : decode b_Tr_sizeOf 5 = .ok (.invokevirtual 45, 3) := by decide +kernel
theorem d_Tr_sizeOf_8 : decode b_Tr_sizeOf 8 = .ok (.istore_n 2, 1) := by decide +kernel
theorem d_Tr_sizeOf_9 : decode b_Tr_sizeOf 9 = .ok (.iload_n 2, 1) := by decide +kernel
theorem d_Tr_sizeOf_10 : decode b_Tr_sizeOf 10 = .ok (.ifCond .ne 7, 3) := by decide +kernel
theorem d_Tr_sizeOf_13 : decode b_Tr_sizeOf 13 = .ok (.iconst 0, 1) := by decide +kernel
theorem d_Tr_sizeOf_14 : decode b_Tr_sizeOf 14 = .ok (.goto 11, 3) := by decide +kernel
theorem d_Tr_sizeOf_17 : decode b_Tr_sizeOf 17 = .ok (.aload_n 0, 1) := by decide +kernel
theorem d_Tr_sizeOf_18 : decode b_Tr_sizeOf 18 = .ok (.getfield 15, 3) := by decide +kernel
theorem d_Tr_sizeOf_21 : decode b_Tr_sizeOf 21 = .ok (.iload_n 2, 1) := by decide +kernel
theorem d_Tr_sizeOf_22 : decode b_Tr_sizeOf 22 = .ok (.invokevirtual 48, 3) := by decide +kernel
theorem d_Tr_sizeOf_25 : decode b_Tr_sizeOf 25 = .ok (.ireturn, 1) := by decide +kernel
theorem d_Tr_sizeOfAll_0 : decode b_Tr_sizeOfAll 0 = .ok (.iconst 0, 1) := by decide +kernel
theorem d_Tr_sizeOfAll_1 : decode b_Tr_sizeOfAll 1 = .ok (.istore_n 1, 1) := by decide +kernel
theorem d_Tr_sizeOfAll_2 : decode b_Tr_sizeOfAll 2 = .ok (.iconst 0, 1) := by decide +kernel
theorem d_Tr_sizeOfAll_3 : decode b_Tr_sizeOfAll 3 = .ok (.istore_n 2, 1) := by decide +kernel
theorem d_Tr_sizeOfAll_4 : decode b_Tr_sizeOfAll 4 = .ok (.iload_n 2, 1) := by decide +kernel
theorem d_Tr_sizeOfAll_5 : decode b_Tr_sizeOfAll 5 = .ok (.bipush 16, 2) := by decide +kernel
theorem d_Tr_sizeOfAll_7 : decode b_Tr_sizeOfAll 7 = .ok (.if_icmp .ge 17, 3) := by decide +kernel
theorem d_Tr_sizeOfAll_10 : decode b_Tr_sizeOfAll 10 = .ok (.iload_n 1, 1) := by decide +kernel
theorem d_Tr_sizeOfAll_11 : decode b_Tr_sizeOfAll 11 = .ok (.aload_n 0, 1) := by decide +kernel
theorem d_Tr_sizeOfAll_12 : decode b_Tr_sizeOfAll 12 = .ok (.iload_n 2, 1) := by decide +kernel
theorem d_Tr_sizeOfAll_13 : decode b_Tr_sizeOfAll 13 = .ok (.invokevirtual 53, 3) := by decide +kernel
theorem d_Tr_sizeOfAll_16 : decode b_Tr_sizeOfAll 16 = .ok (.iadd, 1) := by decide +kernel
theorem d_Tr_sizeOfAll_17 : decode b_Tr_sizeOfAll 17 = .ok (.istore_n 1, 1) := by decide +kernel
theorem d_Tr_sizeOfAll_18 : decode b_Tr_sizeOfAll 18 = .ok (.iinc 2 1, 3) := by decide +kernel
theorem d_Tr_sizeOfAll_21 : decode b_Tr_sizeOfAll 21 = .ok (.goto (-17), 3) := by decide +kernel
theorem d_Tr_sizeOfAll_24 : decode b_Tr_sizeOfAll 24 = .ok (.iload_n 1, 1) := by decide +kernel
theorem d_Tr_sizeOfAll_25 : decode b_Tr_sizeOfAll 25 = .ok (.ireturn, 1) := by decide +kernel
theorem d_Tr_find_0 : decode b_Tr_find 0 = .ok (.aload_n 0, 1) := by decide +kernel
theorem d_Tr_find_1 : decode b_Tr_find 1 = .ok (.getfield 34, 3) := by decide +kernel
theorem d_Tr_find_4 : decode b_Tr_find 4 = .ok (.iload_n 1, 1) := by decide +kernel
theorem d_Tr_find_5 : decode b_Tr_find 5 = .ok (.invokevirtual 45, 3) := by decide +kernel
theorem d_Tr_find_8 : decode b_Tr_find 8 = .ok (.istore_n 3, 1) := by decide +kernel
theorem d_Tr_find_9 : decode b_Tr_find 9 = .ok (.iload_n 3, 1) := by decide +kernel
theorem d_Tr_find_10 : decode b_Tr_find 10 = .ok (.ifCond .ne 7, 3) := by decide +kernel
theorem d_Tr_find_13 : decode b_Tr_find 13 = .ok (.iconst 0, 1) := by decide +kernel
theorem d_Tr_find_14 : decode b_Tr_find 14 = .ok (.goto 15, 3) := by decide +kernel
theorem d_Tr_find_17 : decode b_Tr_find 17 = .ok (.aload_n 0, 1) := by decide +kernel
theorem d_Tr_find_18 : decode b_Tr_find 18 = .ok (.getfield 15, 3) := by decide +kernel
theorem d_Tr_find_21 : decode b_Tr_find 21 = .ok (.iload_n 3, 1) := by decide +kernel
theorem d_Tr_find_22 : decode b_Tr_find 22 = .ok (.iload_n 2, 1) := by decide +kernel
theorem d_Tr_find_23 : decode b_Tr_find 23 = .ok (.bipush 32, 2) := by decide +kernel
theorem d_Tr_find_25 : decode b_Tr_find 25 = .ok (.idiv, 1) := by decide +kernel
theorem d_Tr_find_26 : decode b_Tr_find 26 = .ok (.invokevirtual 56, 3) := by decide +kernel
theorem d_Tr_find_29 : decode b_Tr_find 29 = .ok (.istore 4, 2) := by decide +kernel
theorem d_Tr_find_31 : decode b_Tr_find 31 = .ok (.iload 4, 2) := by decide +kernel
theorem d_Tr_find_33 : decode b_Tr_find 33 = .ok (.ifCond .ne 7, 3) := by decide +kernel
theorem d_Tr_find_36 : decode b_Tr_find 36 = .ok (.iconst 0, 1) := by decide +kernel
theorem d_Tr_find_37 : decode b_Tr_find 37 = .ok (.goto 16, 3) := by decide +kernel
theorem d_Tr_find_40 : decode b_Tr_find 40 = .ok (.aload_n 0, 1) := by decide +kernel
theorem d_Tr_find_41 : decode b_Tr_find 41 = .ok (.getfield 15, 3) := by decide +kernel
theorem d_Tr_find_44 : decode b_Tr_find 44 = .ok (.iload 4, 2) := by decide +kernel
theorem d_Tr_find_46 : decode b_Tr_find 46 = .ok (.iload_n 2, 1) := by decide +kernel
theorem d_Tr_find_47 : decode b_Tr_find 47 = .ok (.bipush 32, 2) := by decide +kernel
theorem d_Tr_find_49 : decode b_Tr_find 49 = .ok (.irem, 1) := by decide +kernel
theorem d_Tr_find_50 : decode b_Tr_find 50 = .ok (.invokevirtual 56, 3) := by decide +kernel
theorem d_Tr_find_53 : decode b_Tr_find 53 = .ok (.ireturn, 1) := by decide +kernel
theorem d_Tr_addEmpty_0 : decode b_Tr_addEmpty 0 = .ok (.aload_n 0, 1) := by decide +kernel
theorem d_Tr_addEmpty_1 : decode b_Tr_addEmpty 1 = .ok (.getfield 34, 3) := by decide +kernel
theorem d_Tr_addEmpty_4 : decode b_Tr_addEmpty 4 = .ok (.iload_n 1, 1) := by decide +kernel
theorem d_Tr_addEmpty_5 : decode b_Tr_addEmpty 5 = .ok (.aload_n 0, 1) := by decide +kernel
theorem d_Tr_addEmpty_6 : decode b_Tr_addEmpty 6 = .ok (.invokevirtual 60, 3) := by decide +kernel
theorem d_Tr_addEmpty_9 : decode b_Tr_addEmpty 9 = .ok (.invokevirtual 64, 3) := by decide +kernel
theorem d_Tr_addEmpty_12 : decode b_Tr_addEmpty 12 = .ok (.return_, 1) := by decide +kernel
theorem d_Tr_addTwin_0 : decode b_Tr_addTwin 0 = .ok (.aload_n 0, 1) := by decide +kernel
theorem d_Tr_addTwin_1 : decode b_Tr_addTwin 1 = .ok (.getfield 34, 3) := by decide +kernel
theorem d_Tr_addTwin_4 : decode b_Tr_addTwin 4 = .ok (.iload_n 2, 1) := by decide +kernel
theorem d_Tr_addTwin_5 : decode b_Tr_addTwin 5 = .ok (.invokevirtual 45, 3) := by decide +kernel
theorem d_Tr_addTwin_8 : decode b_Tr_addTwin 8 = .ok (.istore_n 3, 1) := by decide +kernel
theorem d_Tr_addTwin_9 : decode b_Tr_addTwin 9 = .ok (.aload_n 0, 1) := by decide +kernel
theorem d_Tr_addTwin_10 : decode b_Tr_addTwin 10 = .ok (.getfield 34, 3) := by decide +kernel
theorem d_Tr_addTwin_13 : decode b_Tr_addTwin 13 = .ok (.iload_n 1, 1) := by decide +kernel
theorem d_Tr_addTwin_14 : decode b_Tr_addTwin 14 = .ok (.iload_n 3, 1) := by decide +kernel
theorem d_Tr_addTwin_15 : decode b_Tr_addTwin 15 = .ok (.invokevirtual 64, 3) := by decide +kernel
theorem d_Tr_addTwin_18 : decode b_Tr_addTwin 18 = .ok (.aload_n 0, 1) := by decide +kernel
theorem d_Tr_addTwin_19 : decode b_Tr_addTwin 19 = .ok (.iload_n 3, 1) := by decide +kernel
theorem d_Tr_addTwin_20 : decode b_Tr_addTwin 20 = .ok (.invokevirtual 68, 3) := by decide +kernel
theorem d_Tr_addTwin_23 : decode b_Tr_addTwin 23 = .ok (.return_, 1) := by decide +kernel
theorem d_Tr_dropVolume_0 : decode b_Tr_dropVolume 0 = .ok (.aload_n 0, 1) := by decide +kernel
theorem d_Tr_dropVolume_1 : decode b_Tr_dropVolume 1 = .ok (.aload_n 0, 1) := by decide +kernel
theorem d_Tr_dropVolume_2 : decode b_Tr_dropVolume 2 = .ok (.getfield 34, 3) := by decide +kernel
theorem d_Tr_dropVolume_5 : decode b_Tr_dropVolume 5 = .ok (.iload_n 1, 1) := by decide +kernel
theorem d_Tr_dropVolume_6 : decode b_Tr_dropVolume 6 = .ok (.invokevirtual 45, 3) := by decide +kernel
theorem d_Tr_dropVolume_9 : decode b_Tr_dropVolume 9 = .ok (.iconst 2, 1) := by decide +kernel
theorem d_Tr_dropVolume_10 : decode b_Tr_dropVolume 10 = .ok (.invokevirtual 72, 3) := by decide +kernel
theorem d_Tr_dropVolume_13 : decode b_Tr_dropVolume 13 = .ok (.aload_n 0, 1) := by decide +kernel
theorem d_Tr_dropVolume_14 : decode b_Tr_dropVolume 14 = .ok (.getfield 34, 3) := by decide +kernel
theorem d_Tr_dropVolume_17 : decode b_Tr_dropVolume 17 = .ok (.iload_n 1, 1) := by decide +kernel
theorem d_Tr_dropVolume_18 : decode b_Tr_dropVolume 18 = .ok (.iconst 0, 1) := by decide +kernel
theorem d_Tr_dropVolume_19 : decode b_Tr_dropVolume 19 = .ok (.invokevirtual 64, 3) := by decide +kernel
theorem d_Tr_dropVolume_22 : decode b_Tr_dropVolume 22 = .ok (.return_, 1) := by decide +kernel
theorem d_Tr_ownPiece_0 : decode b_Tr_ownPiece 0 = .ok (.aload_n 0, 1) := by decide +kernel
theorem d_Tr_ownPiece_1 : decode b_Tr_ownPiece 1 = .ok (.iload_n 1, 1) := by decide +kernel
theorem d_Tr_ownPiece_2 : decode b_Tr_ownPiece 2 = .ok (.invokevirtual 75, 3) := by decide +kernel
theorem d_Tr_ownPiece_5 : decode b_Tr_ownPiece 5 = .ok (.istore_n 3, 1) := by decide +kernel
theorem d_Tr_ownPiece_6 : decode b_Tr_ownPiece 6 = .ok (.aload_n 0, 1) := by decide +kernel
theorem d_Tr_ownPiece_7 : decode b_Tr_ownPiece 7 = .ok (.iload_n 3, 1) := by decide +kernel
theorem d_Tr_ownPiece_8 : decode b_Tr_ownPiece 8 = .ok (.iload_n 2, 1) := by decide +kernel
theorem d_Tr_ownPiece_9 : decode b_Tr_ownPiece 9 = .ok (.bipush 32, 2) := by decide +kernel
theorem d_Tr_ownPiece_11 : decode b_Tr_ownPiece 11 = .ok (.idiv, 1) := by decide +kernel
theorem d_Tr_ownPiece_12 : decode b_Tr_ownPiece 12 = .ok (.iconst 1, 1) := by decide +kernel
theorem d_Tr_ownPiece_13 : decode b_Tr_ownPiece 13 = .ok (.invokevirtual 78, 3) := by decide +kernel
theorem d_Tr_ownPiece_16 : decode b_Tr_ownPiece 16 = .ok (.istore 4, 2) := by decide +kernel
theorem d_Tr_ownPiece_18 : decode b_Tr_ownPiece 18 = .ok (.aload_n 0, 1) := by decide +kernel
theorem d_Tr_ownPiece_19 : decode b_Tr_ownPiece 19 = .ok (.getfield 15, 3) := by decide +kernel
theorem d_Tr_ownPiece_22 : decode b_Tr_ownPiece 22 = .ok (.iload 4, 2) := by decide +kernel
theorem d_Tr_ownPiece_24 : decode b_Tr_ownPiece 24 = .ok (.iload_n 2, 1) := by decide +kernel
theorem d_Tr_ownPiece_25 : decode b_Tr_ownPiece 25 = .ok (.bipush 32, 2) := by decide +kernel
theorem d_Tr_ownPiece_27 : decode b_Tr_ownPiece 27 = .ok (.irem, 1) := by decide +kernel
theorem d_Tr_ownPiece_28 : decode b_Tr_ownPiece 28 = .ok (.invokevirtual 56, 3) := by decide +kernel
theorem d_Tr_ownPiece_31 : decode b_Tr_ownPiece 31 = .ok (.ifCond .ne 22, 3) := by decide +kernel
theorem d_Tr_ownPiece_34 : decode b_Tr_ownPiece 34 = .ok (.aload_n 0, 1) := by decide +kernel
theorem d_Tr_ownPiece_35 : decode b_Tr_ownPiece 35 = .ok (.getfield 15, 3) := by decide +kernel
theorem d_Tr_ownPiece_38 : decode b_Tr_ownPiece 38 = .ok (.iload_n 3, 1) := by decide +kernel
theorem d_Tr_ownPiece_39 : decode b_Tr_ownPiece 39 = .ok (.iconst 1, 1) := by decide +kernel
theorem d_Tr_ownPiece_40 : decode b_Tr_ownPiece 40 = .ok (.invokevirtual 82, 3) := by decide +kernel
theorem d_Tr_ownPiece_43 : decode b_Tr_ownPiece 43 = .ok (.aload_n 0, 1) := by decide +kernel
theorem d_Tr_ownPiece_44 : decode b_Tr_ownPiece 44 = .ok (.getfield 15, 3) := by decide +kernel
theorem d_Tr_ownPiece_47 : decode b_Tr_ownPiece 47 = .ok (.iload 4, 2) := by decide +kernel
theorem d_Tr_ownPiece_49 : decode b_Tr_ownPiece 49 = .ok (.iconst 1, 1) := by decide +kernel
theorem d_Tr_ownPiece_50 : decode b_Tr_ownPiece 50 = .ok (.invokevirtual 82, 3) := by decide +kernel
theorem d_Tr_ownPiece_53 : decode b_Tr_ownPiece 53 = .ok (.aload_n 0, 1) := by decide +kernel
theorem d_Tr_ownPiece_54 : decode b_Tr_ownPiece 54 = .ok (.iload 4, 2) := by decide +kernel
theorem d_Tr_ownPiece_56 : decode b_Tr_ownPiece 56 = .ok (.iload_n 2, 1) := by decide +kernel
theorem d_Tr_ownPiece_57 : decode b_Tr_ownPiece 57 = .ok (.bipush 32, 2) := by decide +kernel
theorem d_Tr_ownPiece_59 : decode b_Tr_ownPiece 59 = .ok (.irem, 1) := by decide +kernel
theorem d_Tr_ownPiece_60 : decode b_Tr_ownPiece 60 = .ok (.iconst 0, 1) := by decide +kernel
theorem d_Tr_ownPiece_61 : decode b_Tr_ownPiece 61 = .ok (.invokevirtual 78, 3) := by decide +kernel
theorem d_Tr_ownPiece_64 : decode b_Tr_ownPiece 64 = .ok (.ireturn, 1) := by decide +kernel
theorem d_Tr_dropPiece_0 : decode b_Tr_dropPiece 0 = .ok (.aload_n 0, 1) := by decide +kernel
theorem d_Tr_dropPiece_1 : decode b_Tr_dropPiece 1 = .ok (.iload_n 1, 1) := by decide +kernel
theorem d_Tr_dropPiece_2 : decode b_Tr_dropPiece 2 = .ok (.invokevirtual 75, 3) := by decide +kernel
theorem d_Tr_dropPiece_5 : decode b_Tr_dropPiece 5 = .ok (.istore_n 3, 1) := by decide +kernel
theorem d_Tr_dropPiece_6 : decode b_Tr_dropPiece 6 = .ok (.aload_n 0, 1) := by decide +kernel
theorem d_Tr_dropPiece_7 : decode b_Tr_dropPiece 7 = .ok (.iload_n 3, 1) := by decide +kernel
theorem d_Tr_dropPiece_8 : decode b_Tr_dropPiece 8 = .ok (.iload_n 2, 1) := by decide +kernel
theorem d_Tr_dropPiece_9 : decode b_Tr_dropPiece 9 = .ok (.bipush 32, 2) := by decide +kernel
theorem d_Tr_dropPiece_11 : decode b_Tr_dropPiece 11 = .ok (.idiv, 1) := by decide +kernel
theorem d_Tr_dropPiece_12 : decode b_Tr_dropPiece 12 = .ok (.iconst 1, 1) := by decide +kernel
theorem d_Tr_dropPiece_13 : decode b_Tr_dropPiece 13 = .ok (.invokevirtual 78, 3) := by decide +kernel
theorem d_Tr_dropPiece_16 : decode b_Tr_dropPiece 16 = .ok (.istore 4, 2) := by decide +kernel
theorem d_Tr_dropPiece_18 : decode b_Tr_dropPiece 18 = .ok (.aload_n 0, 1) := by decide +kernel
theorem d_Tr_dropPiece_19 : decode b_Tr_dropPiece 19 = .ok (.getfield 15, 3) := by decide +kernel
theorem d_Tr_dropPiece_22 : decode b_Tr_dropPiece 22 = .ok (.iload_n 3, 1) := by decide +kernel
theorem d_Tr_dropPiece_23 : decode b_Tr_dropPiece 23 = .ok (.iconst (-1), 1) := by decide +kernel
theorem d_Tr_dropPiece_24 : decode b_Tr_dropPiece 24 = .ok (.invokevirtual 82, 3) := by decide +kernel
theorem d_Tr_dropPiece_27 : decode b_Tr_dropPiece 27 = .ok (.aload_n 0, 1) := by decide +kernel
theorem d_Tr_dropPiece_28 : decode b_Tr_dropPiece 28 = .ok (.getfield 15, 3) := by decide +kernel
theorem d_Tr_dropPiece_31 : decode b_Tr_dropPiece 31 = .ok (.iload 4, 2) := by decide +kernel
theorem d_Tr_dropPiece_33 : decode b_Tr_dropPiece 33 = .ok (.iconst (-1), 1) := by decide +kernel
theorem d_Tr_dropPiece_34 : decode b_Tr_dropPiece 34 = .ok (.invokevirtual 82, 3) := by decide +kernel
theorem d_Tr_dropPiece_37 : decode b_Tr_dropPiece 37 = .ok (.aload_n 0, 1) := by decide +kernel
theorem d_Tr_dropPiece_38 : decode b_Tr_dropPiece 38 = .ok (.iload 4, 2) := by decide +kernel
theorem d_Tr_dropPiece_40 : decode b_Tr_dropPiece 40 = .ok (.iload_n 2, 1) := by decide +kernel
theorem d_Tr_dropPiece_41 : decode b_Tr_dropPiece 41 = .ok (.bipush 32, 2) := by decide +kernel
theorem d_Tr_dropPiece_43 : decode b_Tr_dropPiece 43 = .ok (.irem, 1) := by decide +kernel
theorem d_Tr_dropPiece_44 : decode b_Tr_dropPiece 44 = .ok (.iconst 0, 1) := by decide +kernel
theorem d_Tr_dropPiece_45 : decode b_Tr_dropPiece 45 = .ok (.invokevirtual 85, 3) := by decide +kernel
theorem d_Tr_dropPiece_48 : decode b_Tr_dropPiece 48 = .ok (.aload_n 0, 1) := by decide +kernel
theorem d_Tr_dropPiece_49 : decode b_Tr_dropPiece 49 = .ok (.getfield 15, 3) := by decide +kernel
theorem d_Tr_dropPiece_52 : decode b_Tr_dropPiece 52 = .ok (.iload 4, 2) := by decide +kernel
theorem d_Tr_dropPiece_54 : decode b_Tr_dropPiece 54 = .ok (.invokevirtual 48, 3) := by decide +kernel
theorem d_Tr_dropPiece_57 : decode b_Tr_dropPiece 57 = .ok (.ifCond .ne 13, 3) := by decide +kernel
theorem d_Tr_dropPiece_60 : decode b_Tr_dropPiece 60 = .ok (.aload_n 0, 1) := by decide +kernel
theorem d_Tr_dropPiece_61 : decode b_Tr_dropPiece 61 = .ok (.iload_n 3, 1) := by decide +kernel
theorem d_Tr_dropPiece_62 : decode b_Tr_dropPiece 62 = .ok (.iload_n 2, 1) := by decide +kernel
theorem d_Tr_dropPiece_63 : decode b_Tr_dropPiece 63 = .ok (.bipush 32, 2) := by decide +kernel
theorem d_Tr_dropPiece_65 : decode b_Tr_dropPiece 65 = .ok (.idiv, 1) := by decide +kernel
theorem d_Tr_dropPiece_66 : decode b_Tr_dropPiece 66 = .ok (.iconst 1, 1) := by decide +kernel
theorem d_Tr_dropPiece_67 : decode b_Tr_dropPiece 67 = .ok (.invokevirtual 85, 3) := by decide +kernel
theorem d_Tr_dropPiece_70 : decode b_Tr_dropPiece 70 = .ok (.return_, 1) := by decide +kernel
theorem d_Tr_ownRoot_0 : decode b_Tr_ownRoot 0 = .ok (.aload_n 0, 1) := by decide +kernel
theorem d_Tr_ownRoot_1 : decode b_Tr_ownRoot 1 = .ok (.aload_n 0, 1) := by decide +kernel
theorem d_Tr_ownRoot_2 : decode b_Tr_ownRoot 2 = .ok (.getfield 34, 3) := by decide +kernel
theorem d_Tr_ownRoot_5 : decode b_Tr_ownRoot 5 = .ok (.iload_n 1, 1) := by decide +kernel
theorem d_Tr_ownRoot_6 : decode b_Tr_ownRoot 6 = .ok (.invokevirtual 45, 3) := by decide +kernel
theorem d_Tr_ownRoot_9 : decode b_Tr_ownRoot 9 = .ok (.iconst 2, 1) := by decide +kernel
theorem d_Tr_ownRoot_10 : decode b_Tr_ownRoot 10 = .ok (.invokevirtual 89, 3) := by decide +kernel
theorem d_Tr_ownRoot_13 : decode b_Tr_ownRoot 13 = .ok (.istore_n 2, 1) := by decide +kernel
theorem d_Tr_ownRoot_14 : decode b_Tr_ownRoot 14 = .ok (.aload_n 0, 1) := by decide +kernel
theorem d_Tr_ownRoot_15 : decode b_Tr_ownRoot 15 = .ok (.getfield 34, 3) := by decide +kernel
theorem d_Tr_ownRoot_18 : decode b_Tr_ownRoot 18 = .ok (.iload_n 1, 1) := by decide +kernel
theorem d_Tr_ownRoot_19 : decode b_Tr_ownRoot 19 = .ok (.iload_n 2, 1) := by decide +kernel
theorem d_Tr_ownRoot_20 : decode b_Tr_ownRoot 20 = .ok (.invokevirtual 64, 3) := by decide +kernel
theorem d_Tr_ownRoot_23 : decode b_Tr_ownRoot 23 = .ok (.iload_n 2, 1) := by decide +kernel
theorem d_Tr_ownRoot_24 : decode b_Tr_ownRoot 24 = .ok (.ireturn, 1) := by decide +kernel
theorem d_Tr_ownLink_0 : decode b_Tr_ownLink 0 = .ok (.aload_n 0, 1) := by decide +kernel
theorem d_Tr_ownLink_1 : decode b_Tr_ownLink 1 = .ok (.getfield 15, 3) := by decide +kernel
theorem d_Tr_ownLink_4 : decode b_Tr_ownLink 4 = .ok (.iload_n 1, 1) := by decide +kernel
theorem d_Tr_ownLink_5 : decode b_Tr_ownLink 5 = .ok (.iload_n 2, 1) := by decide +kernel
theorem d_Tr_ownLink_6 : decode b_Tr_ownLink 6 = .ok (.invokevirtual 56, 3) := by decide +kernel
theorem d_Tr_ownLink_9 : decode b_Tr_ownLink 9 = .ok (.istore 4, 2) := by decide +kernel
theorem d_Tr_ownLink_11 : decode b_Tr_ownLink 11 = .ok (.iload 4, 2) := by decide +kernel
theorem d_Tr_ownLink_13 : decode b_Tr_ownLink 13 = .ok (.ifCond .ne 10, 3) := by decide +kernel
theorem d_Tr_ownLink_16 : decode b_Tr_ownLink 16 = .ok (.aload_n 0, 1) := by decide +kernel
theorem d_Tr_ownLink_17 : decode b_Tr_ownLink 17 = .ok (.invokevirtual 60, 3) := by decide +kernel
theorem d_Tr_ownLink_20 : decode b_Tr_ownLink 20 = .ok (.goto 10, 3) := by decide +kernel
theorem d_Tr_ownLink_23 : decode b_Tr_ownLink 23 = .ok (.aload_n 0, 1) := by decide +kernel
theorem d_Tr_ownLink_24 : decode b_Tr_ownLink 24 = .ok (.iload 4, 2) := by decide +kernel
theorem d_Tr_ownLink_26 : decode b_Tr_ownLink 26 = .ok (.iload_n 3, 1) := by decide +kernel
theorem d_Tr_ownLink_27 : decode b_Tr_ownLink 27 = .ok (.invokevirtual 89, 3) := by decide +kernel
theorem d_Tr_ownLink_30 : decode b_Tr_ownLink 30 = .ok (.istore 5, 2) := by decide +kernel
theorem d_Tr_ownLink_32 : decode b_Tr_ownLink 32 = .ok (.aload_n 0, 1) := by decide +kernel
theorem d_Tr_ownLink_33 : decode b_Tr_ownLink 33 = .ok (.getfield 15, 3) := by decide +kernel
theorem d_Tr_ownLink_36 : decode b_Tr_ownLink 36 = .ok (.iload_n 1, 1) := by decide +kernel
theorem d_Tr_ownLink_37 : decode b_Tr_ownLink 37 = .ok (.iload_n 2, 1) := by decide +kernel
theorem d_Tr_ownLink_38 : decode b_Tr_ownLink 38 = .ok (.iload 5, 2) := by decide +kernel
theorem d_Tr_ownLink_40 : decode b_Tr_ownLink 40 = .ok (.invokevirtual 92, 3) := by decide +kernel
theorem d_Tr_ownLink_43 : decode b_Tr_ownLink 43 = .ok (.iload 5, 2) := by decide +kernel
theorem d_Tr_ownLink_45 : decode b_Tr_ownLink 45 = .ok (.ireturn, 1) := by decide +kernel
theorem d_Tr_dropLink_0 : decode b_Tr_dropLink 0 = .ok (.aload_n 0, 1) := by decide +kernel
theorem d_Tr_dropLink_1 : decode b_Tr_dropLink 1 = .ok (.aload_n 0, 1) := by decide +kernel
theorem d_Tr_dropLink_2 : decode b_Tr_dropLink 2 = .ok (.getfield 15, 3) := by decide +kernel
theorem d_Tr_dropLink_5 : decode b_Tr_dropLink 5 = .ok (.iload_n 1, 1) := by decide +kernel
theorem d_Tr_dropLink_6 : decode b_Tr_dropLink 6 = .ok (.iload_n 2, 1) := by decide +kernel
theorem d_Tr_dropLink_7 : decode b_Tr_dropLink 7 = .ok (.invokevirtual 56, 3) := by decide +kernel
theorem d_Tr_dropLink_10 : decode b_Tr_dropLink 10 = .ok (.iload_n 3, 1) := by decide +kernel
theorem d_Tr_dropLink_11 : decode b_Tr_dropLink 11 = .ok (.invokevirtual 72, 3) := by decide +kernel
theorem d_Tr_dropLink_14 : decode b_Tr_dropLink 14 = .ok (.aload_n 0, 1) := by decide +kernel
theorem d_Tr_dropLink_15 : decode b_Tr_dropLink 15 = .ok (.getfield 15, 3) := by decide +kernel
theorem d_Tr_dropLink_18 : decode b_Tr_dropLink 18 = .ok (.iload_n 1, 1) := by decide +kernel
theorem d_Tr_dropLink_19 : decode b_Tr_dropLink 19 = .ok (.iload_n 2, 1) := by decide +kernel
theorem d_Tr_dropLink_20 : decode b_Tr_dropLink 20 = .ok (.iconst 0, 1) := by decide +kernel
theorem d_Tr_dropLink_21 : decode b_Tr_dropLink 21 = .ok (.invokevirtual 92, 3) := by decide +kernel
theorem d_Tr_dropLink_24 : decode b_Tr_dropLink 24 = .ok (.return_, 1) := by decide +kernel
theorem d_Tr_own_0 : decode b_Tr_own 0 = .ok (.aload_n 0, 1) := by decide +kernel
theorem d_Tr_own_1 : decode b_Tr_own 1 = .ok (.getfield 34, 3) := by decide +kernel
theorem d_Tr_own_4 : decode b_Tr_own 4 = .ok (.iload_n 1, 1) := by decide +kernel
theorem d_Tr_own_5 : decode b_Tr_own 5 = .ok (.invokevirtual 41, 3) := by decide +kernel
theorem d_Tr_own_8 : decode b_Tr_own 8 = .ok (.iconst 1, 1) := by decide +kernel
theorem d_Tr_own_9 : decode b_Tr_own 9 = .ok (.if_icmp .ne 16, 3) := by decide +kernel
theorem d_Tr_own_12 : decode b_Tr_own 12 = .ok (.aload_n 0, 1) := by decide +kernel
theorem d_Tr_own_13 : decode b_Tr_own 13 = .ok (.getfield 31, 3) := by decide +kernel
theorem d_Tr_own_16 : decode b_Tr_own 16 = .ok (.iload_n 1, 1) := by decide +kernel
theorem d_Tr_own_17 : decode b_Tr_own 17 = .ok (.invokevirtual 41, 3) := by decide +kernel
theorem d_Tr_own_20 : decode b_Tr_own 20 = .ok (.ifCond .ne 5, 3) := by decide +kernel
theorem d_Tr_own_23 : decode b_Tr_own 23 = .ok (.iload_n 1, 1) := by decide +kernel
theorem d_Tr_own_24 : decode b_Tr_own 24 = .ok (.ireturn, 1) := by decide +kernel
theorem d_Tr_own_25 : decode b_Tr_own 25 = .ok (.aload_n 0, 1) := by decide +kernel
theorem d_Tr_own_26 : decode b_Tr_own 26 = .ok (.invokevirtual 95, 3) := by decide +kernel
theorem d_Tr_own_29 : decode b_Tr_own 29 = .ok (.istore_n 3, 1) := by decide +kernel
theorem d_Tr_own_30 : decode b_Tr_own 30 = .ok (.aload_n 0, 1) := by decide +kernel
theorem d_Tr_own_31 : decode b_Tr_own 31 = .ok (.getfield 15, 3) := by decide +kernel
theorem d_Tr_own_34 : decode b_Tr_own 34 = .ok (.iload_n 1, 1) := by decide +kernel
theorem d_Tr_own_35 : decode b_Tr_own 35 = .ok (.iload_n 3, 1) := by decide +kernel
theorem d_Tr_own_36 : decode b_Tr_own 36 = .ok (.invokevirtual 98, 3) := by decide +kernel
theorem d_Tr_own_39 : decode b_Tr_own 39 = .ok (.iconst 0, 1) := by decide +kernel
theorem d_Tr_own_40 : decode b_Tr_own 40 = .ok (.istore 4, 2) := by decide +kernel
theorem d_Tr_own_42 : decode b_Tr_own 42 = .ok (.iload 4, 2) := by decide +kernel
theorem d_Tr_own_44 : decode b_Tr_own 44 = .ok (.iload_n 2, 1) := by decide +kernel
theorem d_Tr_own_45 : decode b_Tr_own 45 = .ok (.invokestatic 101, 3) := by decide +kernel
theorem d_Tr_own_48 : decode b_Tr_own 48 = .ok (.if_icmp .ge 23, 3) := by decide +kernel
theorem d_Tr_own_51 : decode b_Tr_own 51 = .ok (.aload_n 0, 1) := by decide +kernel
theorem d_Tr_own_52 : decode b_Tr_own 52 = .ok (.aload_n 0, 1) := by decide +kernel
theorem d_Tr_own_53 : decode b_Tr_own 53 = .ok (.getfield 15, 3) := by decide +kernel
theorem d_Tr_own_56 : decode b_Tr_own 56 = .ok (.iload_n 3, 1) := by decide +kernel
theorem d_Tr_own_57 : decode b_Tr_own 57 = .ok (.iload 4, 2) := by decide +kernel
theorem d_Tr_own_59 : decode b_Tr_own 59 = .ok (.invokevirtual 56, 3) := by decide +kernel
theorem d_Tr_own_62 : decode b_Tr_own 62 = .ok (.invokevirtual 68, 3) := by decide +kernel
theorem d_Tr_own_65 : decode b_Tr_own 65 = .ok (.iinc 4 1, 3) := by decide +kernel
theorem d_Tr_own_68 : decode b_Tr_own 68 = .ok (.goto (-26), 3) := by decide +kernel
theorem d_Tr_own_71 : decode b_Tr_own 71 = .ok (.aload_n 0, 1) := by decide +kernel
theorem d_Tr_own_72 : decode b_Tr_own 72 = .ok (.iload_n 1, 1) := by decide +kernel
theorem d_Tr_own_73 : decode b_Tr_own 73 = .ok (.iload_n 2, 1) := by decide +kernel
theorem d_Tr_own_74 : decode b_Tr_own 74 = .ok (.invokevirtual 72, 3) := by decide +kernel
theorem d_Tr_own_77 : decode b_Tr_own 77 = .ok (.iload_n 3, 1) := by decide +kernel
theorem d_Tr_own_78 : decode b_Tr_own 78 = .ok (.ireturn, 1) := by decide +kernel
theorem d_Tr_takeBlank_0 : decode b_Tr_takeBlank 0 = .ok (.aload_n 0, 1) := by decide +kernel
theorem d_Tr_takeBlank_1 : decode b_Tr_takeBlank 1 = .ok (.invokevirtual 95, 3) := by decide +kernel
theorem d_Tr_takeBlank_4 : decode b_Tr_takeBlank 4 = .ok (.istore_n 1, 1) := by decide +kernel
theorem d_Tr_takeBlank_5 : decode b_Tr_takeBlank 5 = .ok (.aload_n 0, 1) := by decide +kernel
theorem d_Tr_takeBlank_6 : decode b_Tr_takeBlank 6 = .ok (.getfield 15, 3) := by decide +kernel
theorem d_Tr_takeBlank_9 : decode b_Tr_takeBlank 9 = .ok (.iload_n 1, 1) := by decide +kernel
theorem d_Tr_takeBlank_10 : decode b_Tr_takeBlank 10 = .ok (.invokevirtual 104, 3) := by decide +kernel
theorem d_Tr_takeBlank_13 : decode b_Tr_takeBlank 13 = .ok (.iload_n 1, 1) := by decide +kernel
theorem d_Tr_takeBlank_14 : decode b_Tr_takeBlank 14 = .ok (.ireturn, 1) := by decide +kernel
theorem d_Tr_take_0 : decode b_Tr_take 0 = .ok (.iconst 0, 1) := by decide +kernel
theorem d_Tr_take_1 : decode b_Tr_take 1 = .ok (.istore_n 1, 1) := by decide +kernel
theorem d_Tr_take_2 : decode b_Tr_take 2 = .ok (.iload_n 1, 1) := by decide +kernel
theorem d_Tr_take_3 : decode b_Tr_take 3 = .ok (.sipush 768, 3) := by decide +kernel
theorem d_Tr_take_6 : decode b_Tr_take 6 = .ok (.if_icmp .ge 81, 3) := by decide +kernel
theorem d_Tr_take_9 : decode b_Tr_take 9 = .ok (.aload_n 0, 1) := by decide +kernel
theorem d_Tr_take_10 : decode b_Tr_take 10 = .ok (.aload_n 0, 1) := by decide +kernel
theorem d_Tr_take_11 : decode b_Tr_take 11 = .ok (.getfield 9, 3) := by decide +kernel
theorem d_Tr_take_14 : decode b_Tr_take 14 = .ok (.iconst 1, 1) := by decide +kernel
theorem d_Tr_take_15 : decode b_Tr_take 15 = .ok (.iadd, 1) := by decide +kernel
theorem d_Tr_take_16 : decode b_Tr_take 16 = .ok (.sipush 784, 3) := by decide +kernel
theorem d_Tr_take_19 : decode b_Tr_take 19 = .ok (.if_icmp .ge 12, 3) := by decide +kernel
theorem d_Tr_take_22 : decode b_Tr_take 22 = .ok (.aload_n 0, 1) := by decide +kernel
theorem d_Tr_take_23 : decode b_Tr_take 23 = .ok (.getfield 9, 3) := by decide +kernel
theorem d_Tr_take_26 : decode b_Tr_take 26 = .ok (.iconst 1, 1) := by decide +kernel
theorem d_Tr_take_27 : decode b_Tr_take 27 = .ok (.iadd, 1) := by decide +kernel
theorem d_Tr_take_28 : decode b_Tr_take 28 = .ok (.goto 5, 3) := by decide +kernel
theorem d_Tr_take_31 : decode b_Tr_take 31 = .ok (.bipush 16, 2) := by decide +kernel
theorem d_Tr_take_33 : decode b_Tr_take 33 = .ok (.putfield 9, 3) := by decide +kernel
theorem d_Tr_take_36 : decode b_Tr_take 36 = .ok (.aload_n 0, 1) := by decide +kernel
theorem d_Tr_take_37 : decode b_Tr_take 37 = .ok (.getfield 34, 3) := by decide +kernel
theorem d_Tr_take_40 : decode b_Tr_take 40 = .ok (.aload_n 0, 1) := by decide +kernel
theorem d_Tr_take_41 : decode b_Tr_take 41 = .ok (.getfield 9, 3) := by decide +kernel
theorem d_Tr_take_44 : decode b_Tr_take 44 = .ok (.invokevirtual 41, 3) := by decide +kernel
theorem d_Tr_take_47 : decode b_Tr_take 47 = .ok (.ifCond .ne 34, 3) := by decide +kernel
theorem d_Tr_take_50 : decode b_Tr_take 50 = .ok (.aload_n 0, 1) := by decide +kernel
theorem d_Tr_take_51 : decode b_Tr_take 51 = .ok (.getfield 31, 3) := by decide +kernel
theorem d_Tr_take_54 : decode b_Tr_take 54 = .ok (.aload_n 0, 1) := by decide +kernel
theorem d_Tr_take_55 : decode b_Tr_take 55 = .ok (.getfield 9, 3) := by decide +kernel
theorem d_Tr_take_58 : decode b_Tr_take 58 = .ok (.invokevirtual 41, 3) := by decide +kernel
theorem d_Tr_take_61 : decode b_Tr_take 61 = .ok (.ifCond .ne 20, 3) := by decide +kernel
theorem d_Tr_take_64 : decode b_Tr_take 64 = .ok (.aload_n 0, 1) := by decide +kernel
theorem d_Tr_take_65 : decode b_Tr_take 65 = .ok (.getfield 34, 3) := by decide +kernel
theorem d_Tr_take_68 : decode b_Tr_take 68 = .ok (.aload_n 0, 1) := by decide +kernel
theorem d_Tr_take_69 : decode b_Tr_take 69 = .ok (.getfield 9, 3) := by decide +kernel
theorem d_Tr_take_72 : decode b_Tr_take 72 = .ok (.iconst 1, 1) := by decide +kernel
theorem d_Tr_take_73 : decode b_Tr_take 73 = .ok (.invokevirtual 107, 3) := by decide +kernel
theorem d_Tr_take_76 : decode b_Tr_take 76 = .ok (.aload_n 0, 1) := by decide +kernel
theorem d_Tr_take_77 : decode b_Tr_take 77 = .ok (.getfield 9, 3) := by decide +kernel
theorem d_Tr_take_80 : decode b_Tr_take 80 = .ok (.ireturn, 1) := by decide +kernel
theorem d_Tr_take_81 : decode b_Tr_take 81 = .ok (.iinc 1 1, 3) := by decide +kernel
theorem d_Tr_take_84 : decode b_Tr_take 84 = .ok (.goto (-82), 3) := by decide +kernel
theorem d_Tr_take_87 : decode b_Tr_take 87 = .ok (.iconst 0, 1) := by decide +kernel
theorem d_Tr_take_88 : decode b_Tr_take 88 = .ok (.ireturn, 1) := by decide +kernel
theorem d_Tr_addWay_0 : decode b_Tr_addWay 0 = .ok (.aload_n 0, 1) := by decide +kernel
theorem d_Tr_addWay_1 : decode b_Tr_addWay 1 = .ok (.getfield 34, 3) := by decide +kernel
theorem d_Tr_addWay_4 : decode b_Tr_addWay 4 = .ok (.iload_n 1, 1) := by decide +kernel
theorem d_Tr_addWay_5 : decode b_Tr_addWay 5 = .ok (.aload_n 0, 1) := by decide +kernel
theorem d_Tr_addWay_6 : decode b_Tr_addWay 6 = .ok (.getfield 34, 3) := by decide +kernel
theorem d_Tr_addWay_9 : decode b_Tr_addWay 9 = .ok (.iload_n 1, 1) := by decide +kernel
theorem d_Tr_addWay_10 : decode b_Tr_addWay 10 = .ok (.invokevirtual 41, 3) := by decide +kernel
theorem d_Tr_addWay_13 : decode b_Tr_addWay 13 = .ok (.iconst 1, 1) := by decide +kernel
theorem d_Tr_addWay_14 : decode b_Tr_addWay 14 = .ok (.iadd, 1) := by decide +kernel
theorem d_Tr_addWay_15 : decode b_Tr_addWay 15 = .ok (.invokevirtual 107, 3) := by decide +kernel
theorem d_Tr_addWay_18 : decode b_Tr_addWay 18 = .ok (.return_, 1) := by decide +kernel
theorem d_Tr_release_0 : decode b_Tr_release 0 = .ok (.aload_n 0, 1) := by decide +kernel
theorem d_Tr_release_1 : decode b_Tr_release 1 = .ok (.getfield 34, 3) := by decide +kernel
theorem d_Tr_release_4 : decode b_Tr_release 4 = .ok (.iload_n 1, 1) := by decide +kernel
theorem d_Tr_release_5 : decode b_Tr_release 5 = .ok (.invokevirtual 41, 3) := by decide +kernel
theorem d_Tr_release_8 : decode b_Tr_release 8 = .ok (.istore_n 3, 1) := by decide +kernel
theorem d_Tr_release_9 : decode b_Tr_release 9 = .ok (.iload_n 3, 1) := by decide +kernel
theorem d_Tr_release_10 : decode b_Tr_release 10 = .ok (.ifCond .ne 4, 3) := by decide +kernel
theorem d_Tr_release_13 : decode b_Tr_release 13 = .ok (.return_, 1) := by decide +kernel
theorem d_Tr_release_14 : decode b_Tr_release 14 = .ok (.aload_n 0, 1) := by decide +kernel
theorem d_Tr_release_15 : decode b_Tr_release 15 = .ok (.getfield 34, 3) := by decide +kernel
theorem d_Tr_release_18 : decode b_Tr_release 18 = .ok (.iload_n 1, 1) := by decide +kernel
theorem d_Tr_release_19 : decode b_Tr_release 19 = .ok (.iload_n 3, 1) := by decide +kernel
theorem d_Tr_release_20 : decode b_Tr_release 20 = .ok (.iconst 1, 1) := by decide +kernel
theorem d_Tr_release_21 : decode b_Tr_release 21 = .ok (.isub, 1) := by decide +kernel
theorem d_Tr_release_22 : decode b_Tr_release 22 = .ok (.invokevirtual 107, 3) := by decide +kernel
theorem d_Tr_release_25 : decode b_Tr_release 25 = .ok (.iload_n 3, 1) := by decide +kernel
theorem d_Tr_release_26 : decode b_Tr_release 26 = .ok (.iconst 1, 1) := by decide +kernel
theorem d_Tr_release_27 : decode b_Tr_release 27 = .ok (.if_icmp .le 4, 3) := by decide +kernel
theorem d_Tr_release_30 : decode b_Tr_release 30 = .ok (.return_, 1) := by decide +kernel
theorem d_Tr_release_31 : decode b_Tr_release 31 = .ok (.iconst 0, 1) := by decide +kernel
theorem d_Tr_release_32 : decode b_Tr_release 32 = .ok (.istore 4, 2) := by decide +kernel
theorem d_Tr_release_34 : decode b_Tr_release 34 = .ok (.iload 4, 2) := by decide +kernel
theorem d_Tr_release_36 : decode b_Tr_release 36 = .ok (.iload_n 2, 1) := by decide +kernel
theorem d_Tr_release_37 : decode b_Tr_release 37 = .ok (.invokestatic 101, 3) := by decide +kernel
theorem d_Tr_release_40 : decode b_Tr_release 40 = .ok (.if_icmp .ge 26, 3) := by decide +kernel
theorem d_Tr_release_43 : decode b_Tr_release 43 = .ok (.aload_n 0, 1) := by decide +kernel
theorem d_Tr_release_44 : decode b_Tr_release 44 = .ok (.aload_n 0, 1) := by decide +kernel
theorem d_Tr_release_45 : decode b_Tr_release 45 = .ok (.getfield 15, 3) := by decide +kernel
theorem d_Tr_release_48 : decode b_Tr_release 48 = .ok (.iload_n 1, 1) := by decide +kernel
theorem d_Tr_release_49 : decode b_Tr_release 49 = .ok (.iload 4, 2) := by decide +kernel
theorem d_Tr_release_51 : decode b_Tr_release 51 = .ok (.invokevirtual 56, 3) := by decide +kernel
theorem d_Tr_release_54 : decode b_Tr_release 54 = .ok (.iload_n 2, 1) := by decide +kernel
theorem d_Tr_release_55 : decode b_Tr_release 55 = .ok (.iconst 1, 1) := by decide +kernel
theorem d_Tr_release_56 : decode b_Tr_release 56 = .ok (.isub, 1) := by decide +kernel
theorem d_Tr_release_57 : decode b_Tr_release 57 = .ok (.invokevirtual 72, 3) := by decide +kernel
theorem d_Tr_release_60 : decode b_Tr_release 60 = .ok (.iinc 4 1, 3) := by decide +kernel
theorem d_Tr_release_63 : decode b_Tr_release 63 = .ok (.goto (-29), 3) := by decide +kernel
theorem d_Tr_release_66 : decode b_Tr_release 66 = .ok (.return_, 1) := by decide +kernel
theorem d_Tr_linksOf_0 : decode b_Tr_linksOf 0 = .ok (.iload_n 0, 1) := by decide +kernel
theorem d_Tr_linksOf_1 : decode b_Tr_linksOf 1 = .ok (.iconst 2, 1) := by decide +kernel
theorem d_Tr_linksOf_2 : decode b_Tr_linksOf 2 = .ok (.if_icmp .ne 7, 3) := by decide +kernel
theorem d_Tr_linksOf_5 : decode b_Tr_linksOf 5 = .ok (.iconst 4, 1) := by decide +kernel
theorem d_Tr_linksOf_6 : decode b_Tr_linksOf 6 = .ok (.goto 14, 3) := by decide +kernel
theorem d_Tr_linksOf_9 : decode b_Tr_linksOf 9 = .ok (.iload_n 0, 1) := by decide +kernel
theorem d_Tr_linksOf_10 : decode b_Tr_linksOf 10 = .ok (.iconst 1, 1) := by decide +kernel
theorem d_Tr_linksOf_11 : decode b_Tr_linksOf 11 = .ok (.if_icmp .ne 8, 3) := by decide +kernel
theorem d_Tr_linksOf_14 : decode b_Tr_linksOf 14 = .ok (.bipush 32, 2) := by decide +kernel
theorem d_Tr_linksOf_16 : decode b_Tr_linksOf 16 = .ok (.goto 4, 3) := by decide +kernel
theorem d_Tr_linksOf_19 : decode b_Tr_linksOf 19 = .ok (.iconst 0, 1) := by decide +kernel
theorem d_Tr_linksOf_20 : decode b_Tr_linksOf 20 = .ok (.ireturn, 1) := by decide +kernel
theorem d_Au_init_0 : decode b_Au_init 0 = .ok (.aload_n 0, 1) := by decide +kernel
theorem d_Au_init_1 : decode b_Au_init 1 = .ok (.invokespecial 3, 3) := by decide +kernel
theorem d_Au_init_4 : decode b_Au_init 4 = .ok (.aload_n 0, 1) := by decide +kernel
theorem d_Au_init_5 : decode b_Au_init 5 = .ok (.sipush 768, 3) := by decide +kernel
theorem d_Au_init_8 : decode b_Au_init 8 = .ok (.newarray .int, 2) := by decide +kernel
theorem d_Au_init_10 : decode b_Au_init 10 = .ok (.putfield 9, 3) := by decide +kernel
theorem d_Au_init_13 : decode b_Au_init 13 = .ok (.return_, 1) := by decide +kernel
theorem d_Au_firstFault_0 : decode b_Au_firstFault 0 = .ok (.aload_n 0, 1) := by decide +kernel
theorem d_Au_firstFault_1 : decode b_Au_firstFault 1 = .ok (.getfield 9, 3) := by decide +kernel
theorem d_Au_firstFault_4 : decode b_Au_firstFault 4 = .ok (.iconst 0, 1) := by decide +kernel
theorem d_Au_firstFault_5 : decode b_Au_firstFault 5 = .ok (.invokestatic 15, 3) := by decide +kernel
theorem d_Au_firstFault_8 : decode b_Au_firstFault 8 = .ok (.iconst 0, 1) := by decide +kernel
theorem d_Au_firstFault_9 : decode b_Au_firstFault 9 = .ok (.istore_n 3, 1) := by decide +kernel
theorem d_Au_firstFault_10 : decode b_Au_firstFault 10 = .ok (.iload_n 3, 1) := by decide +kernel
theorem d_Au_firstFault_11 : decode b_Au_firstFault 11 = .ok (.bipush 16, 2) := by decide +kernel
theorem d_Au_firstFault_13 : decode b_Au_firstFault 13 = .ok (.if_icmp .ge 30, 3) := by decide +kernel
theorem d_Au_firstFault_16 : decode b_Au_firstFault 16 = .ok (.aload_n 0, 1) := by decide +kernel
theorem d_Au_firstFault_17 : decode b_Au_firstFault 17 = .ok (.aload_n 1, 1) := by decide +kernel
theorem d_Au_firstFault_18 : decode b_Au_firstFault 18 = .ok (.aload_n 2, 1) := by decide +kernel
theorem d_Au_firstFault_19 : decode b_Au_firstFault 19 = .ok (.iload_n 3, 1) := by decide +kernel
theorem d_Au_firstFault_20 : decode b_Au_firstFault 20 = .ok (.invokevirtual 21, 3) := by decide +kernel
theorem d_Au_firstFault_23 : decode b_Au_firstFault 23 = .ok (.iconst 2, 1) := by decide +kernel
theorem d_Au_firstFault_24 : decode b_Au_firstFault 24 = .ok (.invokevirtual 27, 3) := by decide +kernel
theorem d_Au_firstFault_27 : decode b_Au_firstFault 27 = .ok (.istore 4, 2) := by decide +kernel
theorem d_Au_firstFault_29 : decode b_Au_firstFault 29 = .ok (.iload 4, 2) := by decide +kernel
theorem d_Au_firstFault_31 : decode b_Au_firstFault 31 = .ok (.ifCond .eq 6, 3) := by decide +kernel
theorem d_Au_firstFault_34 : decode b_Au_firstFault 34 = .ok (.iload 4, 2) := by decide +kernel
theorem d_Au_firstFault_36 : decode b_Au_firstFault 36 = .ok (.ireturn, 1) := by decide +kernel
theorem d_Au_firstFault_37 : decode b_Au_firstFault 37 = .ok (.iinc 3 1, 3) := by decide +kernel
theorem d_Au_firstFault_40 : decode b_Au_firstFault 40 = .ok (.goto (-30), 3) := by decide +kernel
theorem d_Au_firstFault_43 : decode b_Au_firstFault 43 = .ok (.iconst 0, 1) := by decide +kernel
theorem d_Au_firstFault_44 : decode b_Au_firstFault 44 = .ok (.istore_n 3, 1) := by decide +kernel
theorem d_Au_firstFault_45 : decode b_Au_firstFault 45 = .ok (.iload_n 3, 1) := by decide +kernel
theorem d_Au_firstFault_46 : decode b_Au_firstFault 46 = .ok (.sipush 768, 3) := by decide +kernel
theorem d_Au_firstFault_49 : decode b_Au_firstFault 49 = .ok (.if_icmp .ge 34, 3) := by decide +kernel
theorem d_Au_firstFault_52 : decode b_Au_firstFault 52 = .ok (.aload_n 0, 1) := by decide +kernel
theorem d_Au_firstFault_53 : decode b_Au_firstFault 53 = .ok (.getfield 9, 3) := by decide +kernel
theorem d_Au_firstFault_56 : decode b_Au_firstFault 56 = .ok (.iload_n 3, 1) := by decide +kernel
theorem d_Au_firstFault_57 : decode b_Au_firstFault 57 = .ok (.iaload, 1) := by decide +kernel
theorem d_Au_firstFault_58 : decode b_Au_firstFault 58 = .ok (.ldc 31, 2) := by decide +kernel
theorem d_Au_firstFault_60 : decode b_Au_firstFault 60 = .ok (.irem, 1) := by decide +kernel
theorem d_Au_firstFault_61 : decode b_Au_firstFault 61 = .ok (.aload_n 2, 1) := by decide +kernel
theorem d_Au_firstFault_62 : decode b_Au_firstFault 62 = .ok (.bipush 16, 2) := by decide +kernel
theorem d_Au_firstFault_64 : decode b_Au_firstFault 64 = .ok (.iload_n 3, 1) := by decide +kernel
theorem d_Au_firstFault_65 : decode b_Au_firstFault 65 = .ok (.iadd, 1) := by decide +kernel
theorem d_Au_firstFault_66 : decode b_Au_firstFault 66 = .ok (.invokevirtual 32, 3) := by decide +kernel
theorem d_Au_firstFault_69 : decode b_Au_firstFault 69 = .ok (.if_icmp .eq 8, 3) := by decide +kernel
theorem d_Au_firstFault_72 : decode b_Au_firstFault 72 = .ok (.bipush 16, 2) := by decide +kernel
theorem d_Au_firstFault_74 : decode b_Au_firstFault 74 = .ok (.iload_n 3, 1) := by decide +kernel
theorem d_Au_firstFault_75 : decode b_Au_firstFault 75 = .ok (.iadd, 1) := by decide +kernel
theorem d_Au_firstFault_76 : decode b_Au_firstFault 76 = .ok (.ireturn, 1) := by decide +kernel
theorem d_Au_firstFault_77 : decode b_Au_firstFault 77 = .ok (.iinc 3 1, 3) := by decide +kernel
theorem d_Au_firstFault_80 : decode b_Au_firstFault 80 = .ok (.goto (-35), 3) := by decide +kernel
theorem d_Au_firstFault_83 : decode b_Au_firstFault 83 = .ok (.iconst 0, 1) := by decide +kernel
theorem d_Au_firstFault_84 : decode b_Au_firstFault 84 = .ok (.ireturn, 1) := by decide +kernel
theorem d_Au_visit_0 : decode b_Au_visit 0 = .ok (.iload_n 2, 1) := by decide +kernel
theorem d_Au_visit_1 : decode b_Au_visit 1 = .ok (.ifCond .ne 5, 3) := by decide +kernel
theorem d_Au_visit_4 : decode b_Au_visit 4 = .ok (.iconst 0, 1) := by decide +kernel
theorem d_Au_visit_5 : decode b_Au_visit 5 = .ok (.ireturn, 1) := by decide +kernel
theorem d_Au_visit_6 : decode b_Au_visit 6 = .ok (.iload_n 2, 1) := by decide +kernel
theorem d_Au_visit_7 : decode b_Au_visit 7 = .ok (.bipush 16, 2) := by decide +kernel
theorem d_Au_visit_9 : decode b_Au_visit 9 = .ok (.isub, 1) := by decide +kernel
theorem d_Au_visit_10 : decode b_Au_visit 10 = .ok (.istore 4, 2) := by decide +kernel
theorem d_Au_visit_12 : decode b_Au_visit 12 = .ok (.iload 4, 2) := by decide +kernel
theorem d_Au_visit_14 : decode b_Au_visit 14 = .ok (.ifCond .lt 11, 3) := by decide +kernel
theorem d_Au_visit_17 : decode b_Au_visit 17 = .ok (.iload 4, 2) := by decide +kernel
theorem d_Au_visit_19 : decode b_Au_visit 19 = .ok (.sipush 768, 3) := by decide +kernel
theorem d_Au_visit_22 : decode b_Au_visit 22 = .ok (.if_icmp .lt 5, 3) := by decide +kernel
theorem d_Au_visit_25 : decode b_Au_visit 25 = .ok (.iload_n 2, 1) := by decide +kernel
theorem d_Au_visit_26 : decode b_Au_visit 26 = .ok (.ireturn, 1) := by decide +kernel
theorem d_Au_visit_27 : decode b_Au_visit 27 = .ok (.aload_n 0, 1) := by decide +kernel
theorem d_Au_visit_28 : decode b_Au_visit 28 = .ok (.getfield 9, 3) := by decide +kernel
theorem d_Au_visit_31 : decode b_Au_visit 31 = .ok (.iload 4, 2) := by decide +kernel
theorem d_Au_visit_33 : decode b_Au_visit 33 = .ok (.iaload, 1) := by decide +kernel
theorem d_Au_visit_34 : decode b_Au_visit 34 = .ok (.ifCond .le 38, 3) := by decide +kernel
theorem d_Au_visit_37 : decode b_Au_visit 37 = .ok (.aload_n 0, 1) := by decide +kernel
theorem d_Au_visit_38 : decode b_Au_visit 38 = .ok (.getfield 9, 3) := by decide +kernel
theorem d_Au_visit_41 : decode b_Au_visit 41 = .ok (.iload 4, 2) := by decide +kernel
theorem d_Au_visit_43 : decode b_Au_visit 43 = .ok (.iaload, 1) := by decide +kernel
theorem d_Au_visit_44 : decode b_Au_visit 44 = .ok (.ldc 31, 2) := by decide +kernel
theorem d_Au_visit_46 : decode b_Au_visit 46 = .ok (.idiv, 1) := by decide +kernel
theorem d_Au_visit_47 : decode b_Au_visit 47 = .ok (.istore 5, 2) := by decide +kernel
theorem d_Au_visit_49 : decode b_Au_visit 49 = .ok (.aload_n 0, 1) := by decide +kernel
theorem d_Au_visit_50 : decode b_Au_visit 50 = .ok (.getfield 9, 3) := by decide +kernel
theorem d_Au_visit_53 : decode b_Au_visit 53 = .ok (.iload 4, 2) := by decide +kernel
theorem d_Au_visit_55 : decode b_Au_visit 55 = .ok (.dup2, 1) := by decide +kernel
theorem d_Au_visit_56 : decode b_Au_visit 56 = .ok (.iaload, 1) := by decide +kernel
theorem d_Au_visit_57 : decode b_Au_visit 57 = .ok (.iconst 1, 1) := by decide +kernel
theorem d_Au_visit_58 : decode b_Au_visit 58 = .ok (.iadd, 1) := by decide +kernel
theorem d_Au_visit_59 : decode b_Au_visit 59 = .ok (.iastore, 1) := by decide +kernel
theorem d_Au_visit_60 : decode b_Au_visit 60 = .ok (.iload 5, 2) := by decide +kernel
theorem d_Au_visit_62 : decode b_Au_visit 62 = .ok (.iload_n 3, 1) := by decide +kernel
theorem d_Au_visit_63 : decode b_Au_visit 63 = .ok (.if_icmp .ne 7, 3) := by decide +kernel
theorem d_Au_visit_66 : decode b_Au_visit 66 = .ok (.iconst 0, 1) := by decide +kernel
theorem d_Au_visit_67 : decode b_Au_visit 67 = .ok (.goto 4, 3) := by decide +kernel
theorem d_Au_visit_70 : decode b_Au_visit 70 = .ok (.iload_n 2, 1) := by decide +kernel
theorem d_Au_visit_71 : decode b_Au_visit 71 = .ok (.ireturn, 1) := by decide +kernel
theorem d_Au_visit_72 : decode b_Au_visit 72 = .ok (.aload_n 0, 1) := by decide +kernel
theorem d_Au_visit_73 : decode b_Au_visit 73 = .ok (.getfield 9, 3) := by decide +kernel
theorem d_Au_visit_76 : decode b_Au_visit 76 = .ok (.iload 4, 2) := by decide +kernel
theorem d_Au_visit_78 : decode b_Au_visit 78 = .ok (.iload_n 3, 1) := by decide +kernel
theorem d_Au_visit_79 : decode b_Au_visit 79 = .ok (.ldc 31, 2) := by decide +kernel
theorem d_Au_visit_81 : decode b_Au_visit 81 = .ok (.imul, 1) := by decide +kernel
theorem d_Au_visit_82 : decode b_Au_visit 82 = .ok (.iconst 1, 1) := by decide +kernel
theorem d_Au_visit_83 : decode b_Au_visit 83 = .ok (.iadd, 1) := by decide +kernel
theorem d_Au_visit_84 : decode b_Au_visit 84 = .ok (.iastore, 1) := by decide +kernel
theorem d_Au_visit_85 : decode b_Au_visit 85 = .ok (.iload_n 3, 1) := by decide +kernel
theorem d_Au_visit_86 : decode b_Au_visit 86 = .ok (.ifCond .le 13, 3) := by decide +kernel
theorem d_Au_visit_89 : decode b_Au_visit 89 = .ok (.aload_n 0, 1) := by decide +kernel
theorem d_Au_visit_90 : decode b_Au_visit 90 = .ok (.aload_n 1, 1) := by decide +kernel
theorem d_Au_visit_91 : decode b_Au_visit 91 = .ok (.iload_n 2, 1) := by decide +kernel
theorem d_Au_visit_92 : decode b_Au_visit 92 = .ok (.iload_n 3, 1) := by decide +kernel
theorem d_Au_visit_93 : decode b_Au_visit 93 = .ok (.invokevirtual 35, 3) := by decide +kernel
theorem d_Au_visit_96 : decode b_Au_visit 96 = .ok (.goto 4, 3) := by decide +kernel
theorem d_Au_visit_99 : decode b_Au_visit 99 = .ok (.iconst 0, 1) := by decide +kernel
theorem d_Au_visit_100 : decode b_Au_visit 100 = .ok (.ireturn, 1) := by decide +kernel
theorem d_Au_visitLinks_0 : decode b_Au_visitLinks 0 = .ok (.iconst 0, 1) := by decide +kernel
theorem d_Au_visitLinks_1 : decode b_Au_visitLinks 1 = .ok (.istore 4, 2) := by decide +kernel
theorem d_Au_visitLinks_3 : decode b_Au_visitLinks 3 = .ok (.iconst 0, 1) := by decide +kernel
theorem d_Au_visitLinks_4 : decode b_Au_visitLinks 4 = .ok (.istore 5, 2) := by decide +kernel
theorem d_Au_visitLinks_6 : decode b_Au_visitLinks 6 = .ok (.iload 5, 2) := by decide +kernel
theorem d_Au_visitLinks_8 : decode b_Au_visitLinks 8 = .ok (.iload_n 3, 1) := by decide +kernel
theorem d_Au_visitLinks_9 : decode b_Au_visitLinks 9 = .ok (.invokestatic 38, 3) := by decide +kernel
theorem d_Au_visitLinks_12 : decode b_Au_visitLinks 12 = .ok (.if_icmp .ge 67, 3) := by decide +kernel
theorem d_Au_visitLinks_15 : decode b_Au_visitLinks 15 = .ok (.aload_n 1, 1) := by decide +kernel
theorem d_Au_visitLinks_16 : decode b_Au_visitLinks 16 = .ok (.iload_n 2, 1) := by decide +kernel
theorem d_Au_visitLinks_17 : decode b_Au_visitLinks 17 = .ok (.iload 5, 2) := by decide +kernel
theorem d_Au_visitLinks_19 : decode b_Au_visitLinks 19 = .ok (.invokevirtual 43, 3) := by decide +kernel
theorem d_Au_visitLinks_22 : decode b_Au_visitLinks 22 = .ok (.istore 6, 2) := by decide +kernel
theorem d_Au_visitLinks_24 : decode b_Au_visitLinks 24 = .ok (.aload_n 0, 1) := by decide +kernel
theorem d_Au_visitLinks_25 : decode b_Au_visitLinks 25 = .ok (.aload_n 1, 1) := by decide +kernel
theorem d_Au_visitLinks_26 : decode b_Au_visitLinks 26 = .ok (.iload 6, 2) := by decide +kernel
theorem d_Au_visitLinks_28 : decode b_Au_visitLinks 28 = .ok (.iload_n 3, 1) := by decide +kernel
theorem d_Au_visitLinks_29 : decode b_Au_visitLinks 29 = .ok (.iconst 1, 1) := by decide +kernel
theorem d_Au_visitLinks_30 : decode b_Au_visitLinks 30 = .ok (.isub, 1) := by decide +kernel
theorem d_Au_visitLinks_31 : decode b_Au_visitLinks 31 = .ok (.invokevirtual 27, 3) := by decide +kernel
theorem d_Au_visitLinks_34 : decode b_Au_visitLinks 34 = .ok (.istore 7, 2) := by decide +kernel
theorem d_Au_visitLinks_36 : decode b_Au_visitLinks 36 = .ok (.iload 7, 2) := by decide +kernel
theorem d_Au_visitLinks_38 : decode b_Au_visitLinks 38 = .ok (.ifCond .eq 6, 3) := by decide +kernel
theorem d_Au_visitLinks_41 : decode b_Au_visitLinks 41 = .ok (.iload 7, 2) := by decide +kernel
theorem d_Au_visitLinks_43 : decode b_Au_visitLinks 43 = .ok (.ireturn, 1) := by decide +kernel
theorem d_Au_visitLinks_44 : decode b_Au_visitLinks 44 = .ok (.iload 4, 2) := by decide +kernel
theorem d_Au_visitLinks_46 : decode b_Au_visitLinks 46 = .ok (.iload 6, 2) := by decide +kernel
theorem d_Au_visitLinks_48 : decode b_Au_visitLinks 48 = .ok (.ifCond .ne 7, 3) := by decide +kernel
theorem d_Au_visitLinks_51 : decode b_Au_visitLinks 51 = .ok (.iconst 0, 1) := by decide +kernel
theorem d_Au_visitLinks_52 : decode b_Au_visitLinks 52 = .ok (.goto 18, 3) := by decide +kernel
theorem d_Au_visitLinks_55 : decode b_Au_visitLinks 55 = .ok (.iload_n 3, 1) := by decide +kernel
theorem d_Au_visitLinks_56 : decode b_Au_visitLinks 56 = .ok (.iconst 1, 1) := by decide +kernel
theorem d_Au_visitLinks_57 : decode b_Au_visitLinks 57 = .ok (.if_icmp .ne 7, 3) := by decide +kernel
theorem d_Au_visitLinks_60 : decode b_Au_visitLinks 60 = .ok (.iconst 1, 1) := by decide +kernel
theorem d_Au_visitLinks_61 : decode b_Au_visitLinks 61 = .ok (.goto 9, 3) := by decide +kernel
theorem d_Au_visitLinks_64 : decode b_Au_visitLinks 64 = .ok (.aload_n 1, 1) := by decide +kernel
theorem d_Au_visitLinks_65 : decode b_Au_visitLinks 65 = .ok (.iload 6, 2) := by decide +kernel
theorem d_Au_visitLinks_67 : decode b_Au_visitLinks 67 = .ok (.invokevirtual 49, 3) := by decide +kernel
theorem d_Au_visitLinks_70 : decode b_Au_visitLinks 70 = .ok (.iadd, 1) := by decide +kernel
theorem d_Au_visitLinks_71 : decode b_Au_visitLinks 71 = .ok (.istore 4, 2) := by decide +kernel
theorem d_Au_visitLinks_73 : decode b_Au_visitLinks 73 = .ok (.iinc 5 1, 3) := by decide +kernel
theorem d_Au_visitLinks_76 : decode b_Au_visitLinks 76 = .ok (.goto (-70), 3) := by decide +kernel
theorem d_Au_visitLinks_79 : decode b_Au_visitLinks 79 = .ok (.iload_n 3, 1) := by decide +kernel
theorem d_Au_visitLinks_80 : decode b_Au_visitLinks 80 = .ok (.iconst 1, 1) := by decide +kernel
theorem d_Au_visitLinks_81 : decode b_Au_visitLinks 81 = .ok (.if_icmp .ne 12, 3) := by decide +kernel
theorem d_Au_visitLinks_84 : decode b_Au_visitLinks 84 = .ok (.iload 4, 2) := by decide +kernel
theorem d_Au_visitLinks_86 : decode b_Au_visitLinks 86 = .ok (.ifCond .ne 7, 3) := by decide +kernel
theorem d_Au_visitLinks_89 : decode b_Au_visitLinks 89 = .ok (.iconst 1, 1) := by decide +kernel
theorem d_Au_visitLinks_90 : decode b_Au_visitLinks 90 = .ok (.goto 4, 3) := by decide +kernel
theorem d_Au_visitLinks_93 : decode b_Au_visitLinks 93 = .ok (.iconst 0, 1) := by decide +kernel
theorem d_Au_visitLinks_94 : decode b_Au_visitLinks 94 = .ok (.istore 5, 2) := by decide +kernel
theorem d_Au_visitLinks_96 : decode b_Au_visitLinks 96 = .ok (.iload 4, 2) := by decide +kernel
theorem d_Au_visitLinks_98 : decode b_Au_visitLinks 98 = .ok (.aload_n 1, 1) := by decide +kernel
theorem d_Au_visitLinks_99 : decode b_Au_visitLinks 99 = .ok (.iload_n 2, 1) := by decide +kernel
theorem d_Au_visitLinks_100 : decode b_Au_visitLinks 100 = .ok (.invokevirtual 49, 3) := by decide +kernel
theorem d_Au_visitLinks_103 : decode b_Au_visitLinks 103 = .ok (.if_icmp .ne 12, 3) := by decide +kernel
theorem d_Au_visitLinks_106 : decode b_Au_visitLinks 106 = .ok (.iload 5, 2) := by decide +kernel
theorem d_Au_visitLinks_108 : decode b_Au_visitLinks 108 = .ok (.ifCond .ne 7, 3) := by decide +kernel
theorem d_Au_visitLinks_111 : decode b_Au_visitLinks 111 = .ok (.iconst 0, 1) := by decide +kernel
theorem d_Au_visitLinks_112 : decode b_Au_visitLinks 112 = .ok (.goto 4, 3) := by decide +kernel
theorem d_Au_visitLinks_115 : decode b_Au_visitLinks 115 = .ok (.iload_n 2, 1) := by decide +kernel
theorem d_Au_visitLinks_116 : decode b_Au_visitLinks 116 = .ok (.ireturn, 1) := by decide +kernel
theorem d_Ar_fillI_0 : decode b_Ar_fillI 0 = .ok (.iconst 0, 1) := by decide +kernel
theorem d_Ar_fillI_1 : decode b_Ar_fillI 1 = .ok (.istore_n 2, 1) := by decide +kernel
theorem d_Ar_fillI_2 : decode b_Ar_fillI 2 = .ok (.aload_n 0, 1) := by decide +kernel
theorem d_Ar_fillI_3 : decode b_Ar_fillI 3 = .ok (.arraylength, 1) := by decide +kernel
theorem d_Ar_fillI_4 : decode b_Ar_fillI 4 = .ok (.istore_n 3, 1) := by decide +kernel
theorem d_Ar_fillI_5 : decode b_Ar_fillI 5 = .ok (.iload_n 2, 1) := by decide +kernel
theorem d_Ar_fillI_6 : decode b_Ar_fillI 6 = .ok (.iload_n 3, 1) := by decide +kernel
theorem d_Ar_fillI_7 : decode b_Ar_fillI 7 = .ok (.if_icmp .ge 13, 3) := by decide +kernel
theorem d_Ar_fillI_10 : decode b_Ar_fillI 10 = .ok (.aload_n 0, 1) := by decide +kernel
theorem d_Ar_fillI_11 : decode b_Ar_fillI 11 = .ok (.iload_n 2, 1) := by decide +kernel
theorem d_Ar_fillI_12 : decode b_Ar_fillI 12 = .ok (.iload_n 1, 1) := by decide +kernel
theorem d_Ar_fillI_13 : decode b_Ar_fillI 13 = .ok (.iastore, 1) := by decide +kernel
theorem d_Ar_fillI_14 : decode b_Ar_fillI 14 = .ok (.iinc 2 1, 3) := by decide +kernel
theorem d_Ar_fillI_17 : decode b_Ar_fillI 17 = .ok (.goto (-12), 3) := by decide +kernel
theorem d_Ar_fillI_20 : decode b_Ar_fillI 20 = .ok (.return_, 1) := by decide +kernel
theorem d_Ar_fillJ_0 : decode b_Ar_fillJ 0 = .ok (.iconst 0, 1) := by decide +kernel
theorem d_Ar_fillJ_1 : decode b_Ar_fillJ 1 = .ok (.istore_n 3, 1) := by decide +kernel
theorem d_Ar_fillJ_2 : decode b_Ar_fillJ 2 = .ok (.aload_n 0, 1) := by decide +kernel
theorem d_Ar_fillJ_3 : decode b_Ar_fillJ 3 = .ok (.arraylength, 1) := by decide +kernel
theorem d_Ar_fillJ_4 : decode b_Ar_fillJ 4 = .ok (.istore 4, 2) := by decide +kernel
theorem d_Ar_fillJ_6 : decode b_Ar_fillJ 6 = .ok (.iload_n 3, 1) := by decide +kernel
theorem d_Ar_fillJ_7 : decode b_Ar_fillJ 7 = .ok (.iload 4, 2) := by decide +kernel
theorem d_Ar_fillJ_9 : decode b_Ar_fillJ 9 = .ok (.if_icmp .ge 13, 3) := by decide +kernel
theorem d_Ar_fillJ_12 : decode b_Ar_fillJ 12 = .ok (.aload_n 0, 1) := by decide +kernel
theorem d_Ar_fillJ_13 : decode b_Ar_fillJ 13 = .ok (.iload_n 3, 1) := by decide +kernel
theorem d_Ar_fillJ_14 : decode b_Ar_fillJ 14 = .ok (.lload_n 1, 1) := by decide +kernel
theorem d_Ar_fillJ_15 : decode b_Ar_fillJ 15 = .ok (.lastore, 1) := by decide +kernel
theorem d_Ar_fillJ_16 : decode b_Ar_fillJ 16 = .ok (.iinc 3 1, 3) := by decide +kernel
theorem d_Ar_fillJ_19 : decode b_Ar_fillJ 19 = .ok (.goto (-13), 3) := by decide +kernel
theorem d_Ar_fillJ_22 : decode b_Ar_fillJ 22 = .ok (.return_, 1) := by decide +kernel
