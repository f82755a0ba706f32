theorem d_Mo_init_0 : decode b_Mo_init 0 = .ok (.aload_n 0, 1) := by decide +kernel
theorem d_Mo_init_1 : decode b_Mo_init 1 = .ok (.invokespecial 1, 3) := by decide +kernel
theorem d_Mo_init_4 : decode b_Mo_init 4 = .ok (.aload_n 0, 1) := by decide +kernel
theorem d_Mo_init_5 : decode b_Mo_init 5 = .ok (.bipush 32, 2) := by decide +kernel
theorem d_Mo_init_7 : decode b_Mo_init 7 = .ok (.newarray .boolean, 2) := by decide +kernel
theorem d_Mo_init_9 : decode b_Mo_init 9 = .ok (.putfield 7, 3) := by decide +kernel
theorem d_Mo_init_12 : decode b_Mo_init 12 = .ok (.aload_n 0, 1) := by decide +kernel
theorem d_Mo_init_13 : decode b_Mo_init 13 = .ok (.sipush 4096, 3) := by decide +kernel
theorem d_Mo_init_16 : decode b_Mo_init 16 = .ok (.newarray .int, 2) := by decide +kernel
theorem d_Mo_init_18 : decode b_Mo_init 18 = .ok (.putfield 13, 3) := by decide +kernel
theorem d_Mo_init_21 : decode b_Mo_init 21 = .ok (.aload_n 0, 1) := by decide +kernel
theorem d_Mo_init_22 : decode b_Mo_init 22 = .ok (.sipush 4096, 3) := by decide +kernel
theorem d_Mo_init_25 : decode b_Mo_init 25 = .ok (.newarray .int, 2) := by decide +kernel
theorem d_Mo_init_27 : decode b_Mo_init 27 = .ok (.putfield 17, 3) := by decide +kernel
theorem d_Mo_init_30 : decode b_Mo_init 30 = .ok (.aload_n 0, 1) := by decide +kernel
theorem d_Mo_init_31 : decode b_Mo_init 31 = .ok (.bipush 64, 2) := by decide +kernel
theorem d_Mo_init_33 : decode b_Mo_init 33 = .ok (.newarray .int, 2) := by decide +kernel
theorem d_Mo_init_35 : decode b_Mo_init 35 = .ok (.putfield 20, 3) := by decide +kernel
theorem d_Mo_init_38 : decode b_Mo_init 38 = .ok (.aload_n 0, 1) := by decide +kernel
theorem d_Mo_init_39 : decode b_Mo_init 39 = .ok (.ldc 23, 2) := by decide +kernel
theorem d_Mo_init_41 : decode b_Mo_init 41 = .ok (.newarray .byte, 2) := by decide +kernel
theorem d_Mo_init_43 : decode b_Mo_init 43 = .ok (.putfield 24, 3) := by decide +kernel
theorem d_Mo_init_46 : decode b_Mo_init 46 = .ok (.aload_n 0, 1) := by decide +kernel
theorem d_Mo_init_47 : decode b_Mo_init 47 = .ok (.sipush 600, 3) := by decide +kernel
theorem d_Mo_init_50 : decode b_Mo_init 50 = .ok (.newarray .boolean, 2) := by decide +kernel
theorem d_Mo_init_52 : decode b_Mo_init 52 = .ok (.putfield 28, 3) := by decide +kernel
theorem d_Mo_init_55 : decode b_Mo_init 55 = .ok (.aload_n 0, 1) := by decide +kernel
theorem d_Mo_init_56 : decode b_Mo_init 56 = .ok (.invokevirtual 31, 3) := by decide +kernel
theorem d_Mo_init_59 : decode b_Mo_init 59 = .ok (.return_, 1) := by decide +kernel
theorem d_Mo_begin_0 : decode b_Mo_begin 0 = .ok (.iconst 0, 1) := by decide +kernel
theorem d_Mo_begin_1 : decode b_Mo_begin 1 = .ok (.istore_n 1, 1) := by decide +kernel
theorem d_Mo_begin_2 : decode b_Mo_begin 2 = .ok (.iload_n 1, 1) := by decide +kernel
theorem d_Mo_begin_3 : decode b_Mo_begin 3 = .ok (.bipush 32, 2) := by decide +kernel
theorem d_Mo_begin_5 : decode b_Mo_begin 5 = .ok (.if_icmp .ge 16, 3) := by decide +kernel
theorem d_Mo_begin_8 : decode b_Mo_begin 8 = .ok (.aload_n 0, 1) := by decide +kernel
theorem d_Mo_begin_9 : decode b_Mo_begin 9 = .ok (.getfield 7, 3) := by decide +kernel
theorem d_Mo_begin_12 : decode b_Mo_begin 12 = .ok (.iload_n 1, 1) := by decide +kernel
theorem d_Mo_begin_13 : decode b_Mo_begin 13 = .ok (.iconst 0, 1) := by decide +kernel
theorem d_Mo_begin_14 : decode b_Mo_begin 14 = .ok (.bastore, 1) := by decide +kernel
theorem d_Mo_begin_15 : decode b_Mo_begin 15 = .ok (.iinc 1 1, 3) := by decide +kernel
theorem d_Mo_begin_18 : decode b_Mo_begin 18 = .ok (.goto (-16), 3) := by decide +kernel
theorem d_Mo_begin_21 : decode b_Mo_begin 21 = .ok (.iconst 0, 1) := by decide +kernel
theorem d_Mo_begin_22 : decode b_Mo_begin 22 = .ok (.istore_n 1, 1) := by decide +kernel
theorem d_Mo_begin_23 : decode b_Mo_begin 23 = .ok (.iload_n 1, 1) := by decide +kernel
theorem d_Mo_begin_24 : decode b_Mo_begin 24 = .ok (.sipush 4096, 3) := by decide +kernel
theorem d_Mo_begin_27 : decode b_Mo_begin 27 = .ok (.if_icmp .ge 16, 3) := by decide +kernel
theorem d_Mo_begin_30 : decode b_Mo_begin 30 = .ok (.aload_n 0, 1) := by decide +kernel
theorem d_Mo_begin_31 : decode b_Mo_begin 31 = .ok (.getfield 13, 3) := by decide +kernel
theorem d_Mo_begin_34 : decode b_Mo_begin 34 = .ok (.iload_n 1, 1) := by decide +kernel
theorem d_Mo_begin_35 : decode b_Mo_begin 35 = .ok (.iconst (-1), 1) := by decide +kernel
theorem d_Mo_begin_36 : decode b_Mo_begin 36 = .ok (.iastore, 1) := by decide +kernel
theorem d_Mo_begin_37 : decode b_Mo_begin 37 = .ok (.iinc 1 1, 3) := by decide +kernel
theorem d_Mo_begin_40 : decode b_Mo_begin 40 = .ok (.goto (-17), 3) := by decide +kernel
theorem d_Mo_begin_43 : decode b_Mo_begin 43 = .ok (.iconst 0, 1) := by decide +kernel
theorem d_Mo_begin_44 : decode b_Mo_begin 44 = .ok (.istore_n 1, 1) := by decide +kernel
theorem d_Mo_begin_45 : decode b_Mo_begin 45 = .ok (.iload_n 1, 1) := by decide +kernel
theorem d_Mo_begin_46 : decode b_Mo_begin 46 = .ok (.bipush 64, 2) := by decide +kernel
theorem d_Mo_begin_48 : decode b_Mo_begin 48 = .ok (.if_icmp .ge 16, 3) := by decide +kernel
theorem d_Mo_begin_51 : decode b_Mo_begin 51 = .ok (.aload_n 0, 1) := by decide +kernel
theorem d_Mo_begin_52 : decode b_Mo_begin 52 = .ok (.getfield 20, 3) := by decide +kernel
theorem d_Mo_begin_55 : decode b_Mo_begin 55 = .ok (.iload_n 1, 1) := by decide +kernel
theorem d_Mo_begin_56 : decode b_Mo_begin 56 = .ok (.iconst 0, 1) := by decide +kernel
theorem d_Mo_begin_57 : decode b_Mo_begin 57 = .ok (.iastore, 1) := by decide +kernel
theorem d_Mo_begin_58 : decode b_Mo_begin 58 = .ok (.iinc 1 1, 3) := by decide +kernel
theorem d_Mo_begin_61 : decode b_Mo_begin 61 = .ok (.goto (-16), 3) := by decide +kernel
theorem d_Mo_begin_64 : decode b_Mo_begin 64 = .ok (.iconst 0, 1) := by decide +kernel
theorem d_Mo_begin_65 : decode b_Mo_begin 65 = .ok (.istore_n 1, 1) := by decide +kernel
theorem d_Mo_begin_66 : decode b_Mo_begin 66 = .ok (.iload_n 1, 1) := by decide +kernel
theorem d_Mo_begin_67 : decode b_Mo_begin 67 = .ok (.sipush 600, 3) := by decide +kernel
theorem d_Mo_begin_70 : decode b_Mo_begin 70 = .ok (.if_icmp .ge 16, 3) := by decide +kernel
theorem d_Mo_begin_73 : decode b_Mo_begin 73 = .ok (.aload_n 0, 1) := by decide +kernel
theorem d_Mo_begin_74 : decode b_Mo_begin 74 = .ok (.getfield 28, 3) := by decide +kernel
theorem d_Mo_begin_77 : decode b_Mo_begin 77 = .ok (.iload_n 1, 1) := by decide +kernel
theorem d_Mo_begin_78 : decode b_Mo_begin 78 = .ok (.iconst 0, 1) := by decide +kernel
theorem d_Mo_begin_79 : decode b_Mo_begin 79 = .ok (.bastore, 1) := by decide +kernel
theorem d_Mo_begin_80 : decode b_Mo_begin 80 = .ok (.iinc 1 1, 3) := by decide +kernel
theorem d_Mo_begin_83 : decode b_Mo_begin 83 = .ok (.goto (-17), 3) := by decide +kernel
theorem d_Mo_begin_86 : decode b_Mo_begin 86 = .ok (.aload_n 0, 1) := by decide +kernel
theorem d_Mo_begin_87 : decode b_Mo_begin 87 = .ok (.iconst 0, 1) := by decide +kernel
theorem d_Mo_begin_88 : decode b_Mo_begin 88 = .ok (.putfield 34, 3) := by decide +kernel
theorem d_Mo_begin_91 : decode b_Mo_begin 91 = .ok (.aload_n 0, 1) := by decide +kernel
theorem d_Mo_begin_92 : decode b_Mo_begin 92 = .ok (.iconst 0, 1) := by decide +kernel
theorem d_Mo_begin_93 : decode b_Mo_begin 93 = .ok (.putfield 38, 3) := by decide +kernel
theorem d_Mo_begin_96 : decode b_Mo_begin 96 = .ok (.return_, 1) := by decide +kernel
theorem d_Mo_lay_0 : decode b_Mo_lay 0 = .ok (.aload_n 0, 1) := by decide +kernel
theorem d_Mo_lay_1 : decode b_Mo_lay 1 = .ok (.invokevirtual 31, 3) := by decide +kernel
theorem d_Mo_lay_4 : decode b_Mo_lay 4 = .ok (.iconst 0, 1) := by decide +kernel
theorem d_Mo_lay_5 : decode b_Mo_lay 5 = .ok (.ireturn, 1) := by decide +kernel
theorem d_Mo_isThere_0 : decode b_Mo_isThere 0 = .ok (.iload_n 1, 1) := by decide +kernel
theorem d_Mo_isThere_1 : decode b_Mo_isThere 1 = .ok (.ifCond .lt 22, 3) := by decide +kernel
theorem d_Mo_isThere_4 : decode b_Mo_isThere 4 = .ok (.iload_n 1, 1) := by decide +kernel
theorem d_Mo_isThere_5 : decode b_Mo_isThere 5 = .ok (.bipush 16, 2) := by decide +kernel
theorem d_Mo_isThere_7 : decode b_Mo_isThere 7 = .ok (.if_icmp .ge 16, 3) := by decide +kernel
theorem d_Mo_isThere_10 : decode b_Mo_isThere 10 = .ok (.aload_n 0, 1) := by decide +kernel
theorem d_Mo_isThere_11 : decode b_Mo_isThere 11 = .ok (.getfield 7, 3) := by decide +kernel
theorem d_Mo_isThere_14 : decode b_Mo_isThere 14 = .ok (.iload_n 1, 1) := by decide +kernel
theorem d_Mo_isThere_15 : decode b_Mo_isThere 15 = .ok (.baload, 1) := by decide +kernel
theorem d_Mo_isThere_16 : decode b_Mo_isThere 16 = .ok (.ifCond .eq 7, 3) := by decide +kernel
theorem d_Mo_isThere_19 : decode b_Mo_isThere 19 = .ok (.iconst 1, 1) := by decide +kernel
theorem d_Mo_isThere_20 : decode b_Mo_isThere 20 = .ok (.goto 4, 3) := by decide +kernel
theorem d_Mo_isThere_23 : decode b_Mo_isThere 23 = .ok (.iconst 0, 1) := by decide +kernel
theorem d_Mo_isThere_24 : decode b_Mo_isThere 24 = .ok (.ireturn, 1) := by decide +kernel
theorem d_Mo_isPiece_0 : decode b_Mo_isPiece 0 = .ok (.iload_n 0, 1) := by decide +kernel
theorem d_Mo_isPiece_1 : decode b_Mo_isPiece 1 = .ok (.ifCond .lt 14, 3) := by decide +kernel
theorem d_Mo_isPiece_4 : decode b_Mo_isPiece 4 = .ok (.iload_n 0, 1) := by decide +kernel
theorem d_Mo_isPiece_5 : decode b_Mo_isPiece 5 = .ok (.sipush 128, 3) := by decide +kernel
theorem d_Mo_isPiece_8 : decode b_Mo_isPiece 8 = .ok (.if_icmp .ge 7, 3) := by decide +kernel
theorem d_Mo_isPiece_11 : decode b_Mo_isPiece 11 = .ok (.iconst 1, 1) := by decide +kernel
theorem d_Mo_isPiece_12 : decode b_Mo_isPiece 12 = .ok (.goto 4, 3) := by decide +kernel
theorem d_Mo_isPiece_15 : decode b_Mo_isPiece 15 = .ok (.iconst 0, 1) := by decide +kernel
theorem d_Mo_isPiece_16 : decode b_Mo_isPiece 16 = .ok (.ireturn, 1) := by decide +kernel
theorem d_Mo_many_0 : decode b_Mo_many 0 = .ok (.iconst 0, 1) := by decide +kernel
theorem d_Mo_many_1 : decode b_Mo_many 1 = .ok (.istore_n 2, 1) := by decide +kernel
theorem d_Mo_many_2 : decode b_Mo_many 2 = .ok (.iconst 0, 1) := by decide +kernel
theorem d_Mo_many_3 : decode b_Mo_many 3 = .ok (.istore_n 3, 1) := by decide +kernel
theorem d_Mo_many_4 : decode b_Mo_many 4 = .ok (.iload_n 3, 1) := by decide +kernel
theorem d_Mo_many_5 : decode b_Mo_many 5 = .ok (.sipush 128, 3) := by decide +kernel
theorem d_Mo_many_8 : decode b_Mo_many 8 = .ok (.if_icmp .ge 32, 3) := by decide +kernel
theorem d_Mo_many_11 : decode b_Mo_many 11 = .ok (.iload_n 2, 1) := by decide +kernel
theorem d_Mo_many_12 : decode b_Mo_many 12 = .ok (.aload_n 0, 1) := by decide +kernel
theorem d_Mo_many_13 : decode b_Mo_many 13 = .ok (.getfield 13, 3) := by decide +kernel
theorem d_Mo_many_16 : decode b_Mo_many 16 = .ok (.sipush 128, 3) := by decide +kernel
theorem d_Mo_many_19 : decode b_Mo_many 19 = .ok (.iload_n 1, 1) := by decide +kernel
theorem d_Mo_many_20 : decode b_Mo_many 20 = .ok (.imul, 1) := by decide +kernel
theorem d_Mo_many_21 : decode b_Mo_many 21 = .ok (.iload_n 3, 1) := by decide +kernel
theorem d_Mo_many_22 : decode b_Mo_many 22 = .ok (.iadd, 1) := by decide +kernel
theorem d_Mo_many_23 : decode b_Mo_many 23 = .ok (.iaload, 1) := by decide +kernel
theorem d_Mo_many_24 : decode b_Mo_many 24 = .ok (.ifCond .lt 7, 3) := by decide +kernel
theorem d_Mo_many_27 : decode b_Mo_many 27 = .ok (.iconst 1, 1) := by decide +kernel
theorem d_Mo_many_28 : decode b_Mo_many 28 = .ok (.goto 4, 3) := by decide +kernel
theorem d_Mo_many_31 : decode b_Mo_many 31 = .ok (.iconst 0, 1) := by decide +kernel
theorem d_Mo_many_32 : decode b_Mo_many 32 = .ok (.iadd, 1) := by decide +kernel
theorem d_Mo_many_33 : decode b_Mo_many 33 = .ok (.istore_n 2, 1) := by decide +kernel
theorem d_Mo_many_34 : decode b_Mo_many 34 = .ok (.iinc 3 1, 3) := by decide +kernel
theorem d_Mo_many_37 : decode b_Mo_many 37 = .ok (.goto (-33), 3) := by decide +kernel
theorem d_Mo_many_40 : decode b_Mo_many 40 = .ok (.iload_n 2, 1) := by decide +kernel
theorem d_Mo_many_41 : decode b_Mo_many 41 = .ok (.ireturn, 1) := by decide +kernel
theorem d_Mo_all_0 : decode b_Mo_all 0 = .ok (.iconst 0, 1) := by decide +kernel
theorem d_Mo_all_1 : decode b_Mo_all 1 = .ok (.istore_n 1, 1) := by decide +kernel
theorem d_Mo_all_2 : decode b_Mo_all 2 = .ok (.iconst 0, 1) := by decide +kernel
theorem d_Mo_all_3 : decode b_Mo_all 3 = .ok (.istore_n 2, 1) := by decide +kernel
theorem d_Mo_all_4 : decode b_Mo_all 4 = .ok (.iload_n 2, 1) := by decide +kernel
theorem d_Mo_all_5 : decode b_Mo_all 5 = .ok (.bipush 16, 2) := by decide +kernel
theorem d_Mo_all_7 : decode b_Mo_all 7 = .ok (.if_icmp .ge 17, 3) := by decide +kernel
theorem d_Mo_all_10 : decode b_Mo_all 10 = .ok (.iload_n 1, 1) := by decide +kernel
theorem d_Mo_all_11 : decode b_Mo_all 11 = .ok (.aload_n 0, 1) := by decide +kernel
theorem d_Mo_all_12 : decode b_Mo_all 12 = .ok (.iload_n 2, 1) := by decide +kernel
theorem d_Mo_all_13 : decode b_Mo_all 13 = .ok (.invokevirtual 42, 3) := by decide +kernel
theorem d_Mo_all_16 : decode b_Mo_all 16 = .ok (.iadd, 1) := by decide +kernel
theorem d_Mo_all_17 : decode b_Mo_all 17 = .ok (.istore_n 1, 1) := by decide +kernel
theorem d_Mo_all_18 : decode b_Mo_all 18 = .ok (.iinc 2 1, 3) := by decide +kernel
theorem d_Mo_all_21 : decode b_Mo_all 21 = .ok (.goto (-17), 3) := by decide +kernel
theorem d_Mo_all_24 : decode b_Mo_all 24 = .ok (.iload_n 1, 1) := by decide +kernel
theorem d_Mo_all_25 : decode b_Mo_all 25 = .ok (.ireturn, 1) := by decide +kernel
theorem d_Mo_fresh_0 : decode b_Mo_fresh 0 = .ok (.iconst 0, 1) := by decide +kernel
theorem d_Mo_fresh_1 : decode b_Mo_fresh 1 = .ok (.istore_n 1, 1) := by decide +kernel
theorem d_Mo_fresh_2 : decode b_Mo_fresh 2 = .ok (.aload_n 0, 1) := by decide +kernel
theorem d_Mo_fresh_3 : decode b_Mo_fresh 3 = .ok (.getfield 28, 3) := by decide +kernel
theorem d_Mo_fresh_6 : decode b_Mo_fresh 6 = .ok (.iload_n 1, 1) := by decide +kernel
theorem d_Mo_fresh_7 : decode b_Mo_fresh 7 = .ok (.baload, 1) := by decide +kernel
theorem d_Mo_fresh_8 : decode b_Mo_fresh 8 = .ok (.ifCond .eq 9, 3) := by decide +kernel
theorem d_Mo_fresh_11 : decode b_Mo_fresh 11 = .ok (.iinc 1 1, 3) := by decide +kernel
theorem d_Mo_fresh_14 : decode b_Mo_fresh 14 = .ok (.goto (-12), 3) := by decide +kernel
theorem d_Mo_fresh_17 : decode b_Mo_fresh 17 = .ok (.aload_n 0, 1) := by decide +kernel
theorem d_Mo_fresh_18 : decode b_Mo_fresh 18 = .ok (.getfield 28, 3) := by decide +kernel
theorem d_Mo_fresh_21 : decode b_Mo_fresh 21 = .ok (.iload_n 1, 1) := by decide +kernel
theorem d_Mo_fresh_22 : decode b_Mo_fresh 22 = .ok (.iconst 1, 1) := by decide +kernel
theorem d_Mo_fresh_23 : decode b_Mo_fresh 23 = .ok (.bastore, 1) := by decide +kernel
theorem d_Mo_fresh_24 : decode b_Mo_fresh 24 = .ok (.iconst 0, 1) := by decide +kernel
theorem d_Mo_fresh_25 : decode b_Mo_fresh 25 = .ok (.istore_n 2, 1) := by decide +kernel
theorem d_Mo_fresh_26 : decode b_Mo_fresh 26 = .ok (.iload_n 2, 1) := by decide +kernel
theorem d_Mo_fresh_27 : decode b_Mo_fresh 27 = .ok (.sipush 128, 3) := by decide +kernel
theorem d_Mo_fresh_30 : decode b_Mo_fresh 30 = .ok (.if_icmp .ge 22, 3) := by decide +kernel
theorem d_Mo_fresh_33 : decode b_Mo_fresh 33 = .ok (.aload_n 0, 1) := by decide +kernel
theorem d_Mo_fresh_34 : decode b_Mo_fresh 34 = .ok (.getfield 24, 3) := by decide +kernel
theorem d_Mo_fresh_37 : decode b_Mo_fresh 37 = .ok (.sipush 128, 3) := by decide +kernel
theorem d_Mo_fresh_40 : decode b_Mo_fresh 40 = .ok (.iload_n 1, 1) := by decide +kernel
theorem d_Mo_fresh_41 : decode b_Mo_fresh 41 = .ok (.imul, 1) := by decide +kernel
theorem d_Mo_fresh_42 : decode b_Mo_fresh 42 = .ok (.iload_n 2, 1) := by decide +kernel
theorem d_Mo_fresh_43 : decode b_Mo_fresh 43 = .ok (.iadd, 1) := by decide +kernel
theorem d_Mo_fresh_44 : decode b_Mo_fresh 44 = .ok (.iconst 0, 1) := by decide +kernel
theorem d_Mo_fresh_45 : decode b_Mo_fresh 45 = .ok (.bastore, 1) := by decide +kernel
theorem d_Mo_fresh_46 : decode b_Mo_fresh 46 = .ok (.iinc 2 1, 3) := by decide +kernel
theorem d_Mo_fresh_49 : decode b_Mo_fresh 49 = .ok (.goto (-23), 3) := by decide +kernel
theorem d_Mo_fresh_52 : decode b_Mo_fresh 52 = .ok (.iload_n 1, 1) := by decide +kernel
theorem d_Mo_fresh_53 : decode b_Mo_fresh 53 = .ok (.ireturn, 1) := by decide +kernel
theorem d_Mo_clear_0 : decode b_Mo_clear 0 = .ok (.aload_n 0, 1) := by decide +kernel
theorem d_Mo_clear_1 : decode b_Mo_clear 1 = .ok (.getfield 13, 3) := by decide +kernel
theorem d_Mo_clear_4 : decode b_Mo_clear 4 = .ok (.iload_n 1, 1) := by decide +kernel
theorem d_Mo_clear_5 : decode b_Mo_clear 5 = .ok (.iaload, 1) := by decide +kernel
theorem d_Mo_clear_6 : decode b_Mo_clear 6 = .ok (.ifCond .lt 15, 3) := by decide +kernel
theorem d_Mo_clear_9 : decode b_Mo_clear 9 = .ok (.aload_n 0, 1) := by decide +kernel
theorem d_Mo_clear_10 : decode b_Mo_clear 10 = .ok (.getfield 28, 3) := by decide +kernel
theorem d_Mo_clear_13 : decode b_Mo_clear 13 = .ok (.aload_n 0, 1) := by decide +kernel
theorem d_Mo_clear_14 : decode b_Mo_clear 14 = .ok (.getfield 13, 3) := by decide +kernel
theorem d_Mo_clear_17 : decode b_Mo_clear 17 = .ok (.iload_n 1, 1) := by decide +kernel
theorem d_Mo_clear_18 : decode b_Mo_clear 18 = .ok (.iaload, 1) := by decide +kernel
theorem d_Mo_clear_19 : decode b_Mo_clear 19 = .ok (.iconst 0, 1) := by decide +kernel
theorem d_Mo_clear_20 : decode b_Mo_clear 20 = .ok (.bastore, 1) := by decide +kernel
theorem d_Mo_clear_21 : decode b_Mo_clear 21 = .ok (.aload_n 0, 1) := by decide +kernel
theorem d_Mo_clear_22 : decode b_Mo_clear 22 = .ok (.getfield 13, 3) := by decide +kernel
theorem d_Mo_clear_25 : decode b_Mo_clear 25 = .ok (.iload_n 1, 1) := by decide +kernel
theorem d_Mo_clear_26 : decode b_Mo_clear 26 = .ok (.iconst (-1), 1) := by decide +kernel
theorem d_Mo_clear_27 : decode b_Mo_clear 27 = .ok (.iastore, 1) := by decide +kernel
theorem d_Mo_clear_28 : decode b_Mo_clear 28 = .ok (.return_, 1) := by decide +kernel
theorem d_Mo_make_0 : decode b_Mo_make 0 = .ok (.aload_n 0, 1) := by decide +kernel
theorem d_Mo_make_1 : decode b_Mo_make 1 = .ok (.getfield 38, 3) := by decide +kernel
theorem d_Mo_make_4 : decode b_Mo_make 4 = .ok (.ifCond .eq 6, 3) := by decide +kernel
theorem d_Mo_make_7 : decode b_Mo_make 7 = .ok (.bipush (-2), 2) := by decide +kernel
theorem d_Mo_make_9 : decode b_Mo_make 9 = .ok (.ireturn, 1) := by decide +kernel
theorem d_Mo_make_10 : decode b_Mo_make 10 = .ok (.iload_n 1, 1) := by decide +kernel
theorem d_Mo_make_11 : decode b_Mo_make 11 = .ok (.ifCond .lt 18, 3) := by decide +kernel
theorem d_Mo_make_14 : decode b_Mo_make 14 = .ok (.iload_n 1, 1) := by decide +kernel
theorem d_Mo_make_15 : decode b_Mo_make 15 = .ok (.bipush 16, 2) := by decide +kernel
theorem d_Mo_make_17 : decode b_Mo_make 17 = .ok (.if_icmp .ge 12, 3) := by decide +kernel
theorem d_Mo_make_20 : decode b_Mo_make 20 = .ok (.aload_n 0, 1) := by decide +kernel
theorem d_Mo_make_21 : decode b_Mo_make 21 = .ok (.getfield 7, 3) := by decide +kernel
theorem d_Mo_make_24 : decode b_Mo_make 24 = .ok (.iload_n 1, 1) := by decide +kernel
theorem d_Mo_make_25 : decode b_Mo_make 25 = .ok (.baload, 1) := by decide +kernel
theorem d_Mo_make_26 : decode b_Mo_make 26 = .ok (.ifCond .eq 5, 3) := by decide +kernel
theorem d_Mo_make_29 : decode b_Mo_make 29 = .ok (.iconst (-1), 1) := by decide +kernel
theorem d_Mo_make_30 : decode b_Mo_make 30 = .ok (.ireturn, 1) := by decide +kernel
theorem d_Mo_make_31 : decode b_Mo_make 31 = .ok (.aload_n 0, 1) := by decide +kernel
theorem d_Mo_make_32 : decode b_Mo_make 32 = .ok (.getfield 7, 3) := by decide +kernel
theorem d_Mo_make_35 : decode b_Mo_make 35 = .ok (.iload_n 1, 1) := by decide +kernel
theorem d_Mo_make_36 : decode b_Mo_make 36 = .ok (.iconst 1, 1) := by decide +kernel
theorem d_Mo_make_37 : decode b_Mo_make 37 = .ok (.bastore, 1) := by decide +kernel
theorem d_Mo_make_38 : decode b_Mo_make 38 = .ok (.iconst 0, 1) := by decide +kernel
theorem d_Mo_make_39 : decode b_Mo_make 39 = .ok (.ireturn, 1) := by decide +kernel
theorem d_Mo_snap_0 : decode b_Mo_snap 0 = .ok (.aload_n 0, 1) := by decide +kernel
theorem d_Mo_snap_1 : decode b_Mo_snap 1 = .ok (.getfield 38, 3) := by decide +kernel
theorem d_Mo_snap_4 : decode b_Mo_snap 4 = .ok (.ifCond .eq 6, 3) := by decide +kernel
theorem d_Mo_snap_7 : decode b_Mo_snap 7 = .ok (.bipush (-2), 2) := by decide +kernel
theorem d_Mo_snap_9 : decode b_Mo_snap 9 = .ok (.ireturn, 1) := by decide +kernel
theorem d_Mo_snap_10 : decode b_Mo_snap 10 = .ok (.iload_n 1, 1) := by decide +kernel
theorem d_Mo_snap_11 : decode b_Mo_snap 11 = .ok (.ifCond .lt 26, 3) := by decide +kernel
theorem d_Mo_snap_14 : decode b_Mo_snap 14 = .ok (.iload_n 1, 1) := by decide +kernel
theorem d_Mo_snap_15 : decode b_Mo_snap 15 = .ok (.bipush 16, 2) := by decide +kernel
theorem d_Mo_snap_17 : decode b_Mo_snap 17 = .ok (.if_icmp .ge 20, 3) := by decide +kernel
theorem d_Mo_snap_20 : decode b_Mo_snap 20 = .ok (.aload_n 0, 1) := by decide +kernel
theorem d_Mo_snap_21 : decode b_Mo_snap 21 = .ok (.getfield 7, 3) := by decide +kernel
theorem d_Mo_snap_24 : decode b_Mo_snap 24 = .ok (.iload_n 1, 1) := by decide +kernel
theorem d_Mo_snap_25 : decode b_Mo_snap 25 = .ok (.baload, 1) := by decide +kernel
theorem d_Mo_snap_26 : decode b_Mo_snap 26 = .ok (.ifCond .ne 11, 3) := by decide +kernel
theorem d_Mo_snap_29 : decode b_Mo_snap 29 = .ok (.aload_n 0, 1) := by decide +kernel
theorem d_Mo_snap_30 : decode b_Mo_snap 30 = .ok (.iload_n 2, 1) := by decide +kernel
theorem d_Mo_snap_31 : decode b_Mo_snap 31 = .ok (.invokevirtual 46, 3) := by decide +kernel
theorem d_Mo_snap_34 : decode b_Mo_snap 34 = .ok (.ifCond .ne 5, 3) := by decide +kernel
theorem d_Mo_snap_37 : decode b_Mo_snap 37 = .ok (.iconst (-1), 1) := by decide +kernel
theorem d_Mo_snap_38 : decode b_Mo_snap 38 = .ok (.ireturn, 1) := by decide +kernel
theorem d_Mo_snap_39 : decode b_Mo_snap 39 = .ok (.aload_n 0, 1) := by decide +kernel
theorem d_Mo_snap_40 : decode b_Mo_snap 40 = .ok (.iload_n 2, 1) := by decide +kernel
theorem d_Mo_snap_41 : decode b_Mo_snap 41 = .ok (.invokevirtual 42, 3) := by decide +kernel
theorem d_Mo_snap_44 : decode b_Mo_snap 44 = .ok (.istore_n 3, 1) := by decide +kernel
theorem d_Mo_snap_45 : decode b_Mo_snap 45 = .ok (.aload_n 0, 1) := by decide +kernel
theorem d_Mo_snap_46 : decode b_Mo_snap 46 = .ok (.invokevirtual 50, 3) := by decide +kernel
theorem d_Mo_snap_49 : decode b_Mo_snap 49 = .ok (.iload_n 3, 1) := by decide +kernel
theorem d_Mo_snap_50 : decode b_Mo_snap 50 = .ok (.iadd, 1) := by decide +kernel
theorem d_Mo_snap_51 : decode b_Mo_snap 51 = .ok (.sipush 300, 3) := by decide +kernel
theorem d_Mo_snap_54 : decode b_Mo_snap 54 = .ok (.if_icmp .le 6, 3) := by decide +kernel
theorem d_Mo_snap_57 : decode b_Mo_snap 57 = .ok (.bipush (-3), 2) := by decide +kernel
theorem d_Mo_snap_59 : decode b_Mo_snap 59 = .ok (.ireturn, 1) := by decide +kernel
theorem d_Mo_snap_60 : decode b_Mo_snap 60 = .ok (.aload_n 0, 1) := by decide +kernel
theorem d_Mo_snap_61 : decode b_Mo_snap 61 = .ok (.getfield 7, 3) := by decide +kernel
theorem d_Mo_snap_64 : decode b_Mo_snap 64 = .ok (.iload_n 1, 1) := by decide +kernel
theorem d_Mo_snap_65 : decode b_Mo_snap 65 = .ok (.iconst 1, 1) := by decide +kernel
theorem d_Mo_snap_66 : decode b_Mo_snap 66 = .ok (.bastore, 1) := by decide +kernel
theorem d_Mo_snap_67 : decode b_Mo_snap 67 = .ok (.iconst 0, 1) := by decide +kernel
theorem d_Mo_snap_68 : decode b_Mo_snap 68 = .ok (.istore 4, 2) := by decide +kernel
theorem d_Mo_snap_70 : decode b_Mo_snap 70 = .ok (.iload 4, 2) := by decide +kernel
theorem d_Mo_snap_72 : decode b_Mo_snap 72 = .ok (.sipush 128, 3) := by decide +kernel
theorem d_Mo_snap_75 : decode b_Mo_snap 75 = .ok (.if_icmp .ge 119, 3) := by decide +kernel
theorem d_Mo_snap_78 : decode b_Mo_snap 78 = .ok (.sipush 128, 3) := by decide +kernel
theorem d_Mo_snap_81 : decode b_Mo_snap 81 = .ok (.iload_n 2, 1) := by decide +kernel
theorem d_Mo_snap_82 : decode b_Mo_snap 82 = .ok (.imul, 1) := by decide +kernel
theorem d_Mo_snap_83 : decode b_Mo_snap 83 = .ok (.iload 4, 2) := by decide +kernel
theorem d_Mo_snap_85 : decode b_Mo_snap 85 = .ok (.iadd, 1) := by decide +kernel
theorem d_Mo_snap_86 : decode b_Mo_snap 86 = .ok (.istore 5, 2) := by decide +kernel
theorem d_Mo_snap_88 : decode b_Mo_snap 88 = .ok (.sipush 128, 3) := by decide +kernel
theorem d_Mo_snap_91 : decode b_Mo_snap 91 = .ok (.iload_n 1, 1) := by decide +kernel
theorem d_Mo_snap_92 : decode b_Mo_snap 92 = .ok (.imul, 1) := by decide +kernel
theorem d_Mo_snap_93 : decode b_Mo_snap 93 = .ok (.iload 4, 2) := by decide +kernel
theorem d_Mo_snap_95 : decode b_Mo_snap 95 = .ok (.iadd, 1) := by decide +kernel
theorem d_Mo_snap_96 : decode b_Mo_snap 96 = .ok (.istore 6, 2) := by decide +kernel
theorem d_Mo_snap_98 : decode b_Mo_snap 98 = .ok (.aload_n 0, 1) := by decide +kernel
theorem d_Mo_snap_99 : decode b_Mo_snap 99 = .ok (.getfield 13, 3) := by decide +kernel
theorem d_Mo_snap_102 : decode b_Mo_snap 102 = .ok (.iload 5, 2) := by decide +kernel
theorem d_Mo_snap_104 : decode b_Mo_snap 104 = .ok (.iaload, 1) := by decide +kernel
theorem d_Mo_snap_105 : decode b_Mo_snap 105 = .ok (.ifCond .lt 83, 3) := by decide +kernel
theorem d_Mo_snap_108 : decode b_Mo_snap 108 = .ok (.aload_n 0, 1) := by decide +kernel
theorem d_Mo_snap_109 : decode b_Mo_snap 109 = .ok (.getfield 13, 3) := by decide +kernel
theorem d_Mo_snap_112 : decode b_Mo_snap 112 = .ok (.iload 6, 2) := by decide +kernel
theorem d_Mo_snap_114 : decode b_Mo_snap 114 = .ok (.aload_n 0, 1) := by decide +kernel
theorem d_Mo_snap_115 : decode b_Mo_snap 115 = .ok (.invokevirtual 54, 3) := by decide +kernel
theorem d_Mo_snap_118 : decode b_Mo_snap 118 = .ok (.iastore, 1) := by decide +kernel
theorem d_Mo_snap_119 : decode b_Mo_snap 119 = .ok (.aload_n 0, 1) := by decide +kernel
theorem d_Mo_snap_120 : decode b_Mo_snap 120 = .ok (.getfield 17, 3) := by decide +kernel
theorem d_Mo_snap_123 : decode b_Mo_snap 123 = .ok (.iload 6, 2) := by decide +kernel
theorem d_Mo_snap_125 : decode b_Mo_snap 125 = .ok (.aload_n 0, 1) := by decide +kernel
theorem d_Mo_snap_126 : decode b_Mo_snap 126 = .ok (.getfield 17, 3) := by decide +kernel
theorem d_Mo_snap_129 : decode b_Mo_snap 129 = .ok (.iload 5, 2) := by decide +kernel
theorem d_Mo_snap_131 : decode b_Mo_snap 131 = .ok (.iaload, 1) := by decide +kernel
theorem d_Mo_snap_132 : decode b_Mo_snap 132 = .ok (.iastore, 1) := by decide +kernel
theorem d_Mo_snap_133 : decode b_Mo_snap 133 = .ok (.iconst 0, 1) := by decide +kernel
theorem d_Mo_snap_134 : decode b_Mo_snap 134 = .ok (.istore 7, 2) := by decide +kernel
theorem d_Mo_snap_136 : decode b_Mo_snap 136 = .ok (.iload 7, 2) := by decide +kernel
theorem d_Mo_snap_138 : decode b_Mo_snap 138 = .ok (.sipush 128, 3) := by decide +kernel
theorem d_Mo_snap_141 : decode b_Mo_snap 141 = .ok (.if_icmp .ge 47, 3) := by decide +kernel
theorem d_Mo_snap_144 : decode b_Mo_snap 144 = .ok (.aload_n 0, 1) := by decide +kernel
theorem d_Mo_snap_145 : decode b_Mo_snap 145 = .ok (.getfield 24, 3) := by decide +kernel
theorem d_Mo_snap_148 : decode b_Mo_snap 148 = .ok (.sipush 128, 3) := by decide +kernel
theorem d_Mo_snap_151 : decode b_Mo_snap 151 = .ok (.aload_n 0, 1) := by decide +kernel
theorem d_Mo_snap_152 : decode b_Mo_snap 152 = .ok (.getfield 13, 3) := by decide +kernel
theorem d_Mo_snap_155 : decode b_Mo_snap 155 = .ok (.iload 6, 2) := by decide +kernel
theorem d_Mo_snap_157 : decode b_Mo_snap 157 = .ok (.iaload, 1) := by decide +kernel
theorem d_Mo_snap_158 : decode b_Mo_snap 158 = .ok (.imul, 1) := by decide +kernel
theorem d_Mo_snap_159 : decode b_Mo_snap 159 = .ok (.iload 7, 2) := by decide +kernel
theorem d_Mo_snap_161 : decode b_Mo_snap 161 = .ok (.iadd, 1) := by decide +kernel
theorem d_Mo_snap_162 : decode b_Mo_snap 162 = .ok (.aload_n 0, 1) := by decide +kernel
theorem d_Mo_snap_163 : decode b_Mo_snap 163 = .ok (.getfield 24, 3) := by decide +kernel
theorem d_Mo_snap_166 : decode b_Mo_snap 166 = .ok (.sipush 128, 3) := by decide +kernel
theorem d_Mo_snap_169 : decode b_Mo_snap 169 = .ok (.aload_n 0, 1) := by decide +kernel
theorem d_Mo_snap_170 : decode b_Mo_snap 170 = .ok (.getfield 13, 3) := by decide +kernel
theorem d_Mo_snap_173 : decode b_Mo_snap 173 = .ok (.iload 5, 2) := by decide +kernel
theorem d_Mo_snap_175 : decode b_Mo_snap 175 = .ok (.iaload, 1) := by decide +kernel
theorem d_Mo_snap_176 : decode b_Mo_snap 176 = .ok (.imul, 1) := by decide +kernel
theorem d_Mo_snap_177 : decode b_Mo_snap 177 = .ok (.iload 7, 2) := by decide +kernel
theorem d_Mo_snap_179 : decode b_Mo_snap 179 = .ok (.iadd, 1) := by decide +kernel
theorem d_Mo_snap_180 : decode b_Mo_snap 180 = .ok (.baload, 1) := by decide +kernel
theorem d_Mo_snap_181 : decode b_Mo_snap 181 = .ok (.bastore, 1) := by decide +kernel
theorem d_Mo_snap_182 : decode b_Mo_snap 182 = .ok (.iinc 7 1, 3) := by decide +kernel
theorem d_Mo_snap_185 : decode b_Mo_snap 185 = .ok (.goto (-49), 3) := by decide +kernel
theorem d_Mo_snap_188 : decode b_Mo_snap 188 = .ok (.iinc 4 1, 3) := by decide +kernel
theorem d_Mo_snap_191 : decode b_Mo_snap 191 = .ok (.goto (-121), 3) := by decide +kernel
theorem d_Mo_snap_194 : decode b_Mo_snap 194 = .ok (.iload_n 3, 1) := by decide +kernel
theorem d_Mo_snap_195 : decode b_Mo_snap 195 = .ok (.ireturn, 1) := by decide +kernel
theorem d_Mo_remove_0 : decode b_Mo_remove 0 = .ok (.aload_n 0, 1) := by decide +kernel
theorem d_Mo_remove_1 : decode b_Mo_remove 1 = .ok (.getfield 38, 3) := by decide +kernel
theorem d_Mo_remove_4 : decode b_Mo_remove 4 = .ok (.ifCond .eq 6, 3) := by decide +kernel
theorem d_Mo_remove_7 : decode b_Mo_remove 7 = .ok (.bipush (-2), 2) := by decide +kernel
theorem d_Mo_remove_9 : decode b_Mo_remove 9 = .ok (.ireturn, 1) := by decide +kernel
theorem d_Mo_remove_10 : decode b_Mo_remove 10 = .ok (.aload_n 0, 1) := by decide +kernel
theorem d_Mo_remove_11 : decode b_Mo_remove 11 = .ok (.iload_n 1, 1) := by decide +kernel
theorem d_Mo_remove_12 : decode b_Mo_remove 12 = .ok (.invokevirtual 46, 3) := by decide +kernel
theorem d_Mo_remove_15 : decode b_Mo_remove 15 = .ok (.ifCond .ne 5, 3) := by decide +kernel
theorem d_Mo_remove_18 : decode b_Mo_remove 18 = .ok (.iconst (-1), 1) := by decide +kernel
theorem d_Mo_remove_19 : decode b_Mo_remove 19 = .ok (.ireturn, 1) := by decide +kernel
theorem d_Mo_remove_20 : decode b_Mo_remove 20 = .ok (.aload_n 0, 1) := by decide +kernel
theorem d_Mo_remove_21 : decode b_Mo_remove 21 = .ok (.iload_n 1, 1) := by decide +kernel
theorem d_Mo_remove_22 : decode b_Mo_remove 22 = .ok (.invokevirtual 42, 3) := by decide +kernel
theorem d_Mo_remove_25 : decode b_Mo_remove 25 = .ok (.istore_n 2, 1) := by decide +kernel
theorem d_Mo_remove_26 : decode b_Mo_remove 26 = .ok (.iconst 0, 1) := by decide +kernel
theorem d_Mo_remove_27 : decode b_Mo_remove 27 = .ok (.istore_n 3, 1) := by decide +kernel
theorem d_Mo_remove_28 : decode b_Mo_remove 28 = .ok (.iload_n 3, 1) := by decide +kernel
theorem d_Mo_remove_29 : decode b_Mo_remove 29 = .ok (.sipush 128, 3) := by decide +kernel
theorem d_Mo_remove_32 : decode b_Mo_remove 32 = .ok (.if_icmp .ge 20, 3) := by decide +kernel
theorem d_Mo_remove_35 : decode b_Mo_remove 35 = .ok (.aload_n 0, 1) := by decide +kernel
theorem d_Mo_remove_36 : decode b_Mo_remove 36 = .ok (.sipush 128, 3) := by decide +kernel
theorem d_Mo_remove_39 : decode b_Mo_remove 39 = .ok (.iload_n 1, 1) := by decide +kernel
theorem d_Mo_remove_40 : decode b_Mo_remove 40 = .ok (.imul, 1) := by decide +kernel
theorem d_Mo_remove_41 : decode b_Mo_remove 41 = .ok (.iload_n 3, 1) := by decide +kernel
theorem d_Mo_remove_42 : decode b_Mo_remove 42 = .ok (.iadd, 1) := by decide +kernel
theorem d_Mo_remove_43 : decode b_Mo_remove 43 = .ok (.invokevirtual 57, 3) := by decide +kernel
theorem d_Mo_remove_46 : decode b_Mo_remove 46 = .ok (.iinc 3 1, 3) := by decide +kernel
theorem d_Mo_remove_49 : decode b_Mo_remove 49 = .ok (.goto (-21), 3) := by decide +kernel
theorem d_Mo_remove_52 : decode b_Mo_remove 52 = .ok (.aload_n 0, 1) := by decide +kernel
theorem d_Mo_remove_53 : decode b_Mo_remove 53 = .ok (.getfield 7, 3) := by decide +kernel
theorem d_Mo_remove_56 : decode b_Mo_remove 56 = .ok (.iload_n 1, 1) := by decide +kernel
theorem d_Mo_remove_57 : decode b_Mo_remove 57 = .ok (.iconst 0, 1) := by decide +kernel
theorem d_Mo_remove_58 : decode b_Mo_remove 58 = .ok (.bastore, 1) := by decide +kernel
theorem d_Mo_remove_59 : decode b_Mo_remove 59 = .ok (.iload_n 2, 1) := by decide +kernel
theorem d_Mo_remove_60 : decode b_Mo_remove 60 = .ok (.ireturn, 1) := by decide +kernel
theorem d_Mo_write_0 : decode b_Mo_write 0 = .ok (.aload_n 0, 1) := by decide +kernel
theorem d_Mo_write_1 : decode b_Mo_write 1 = .ok (.getfield 38, 3) := by decide +kernel
theorem d_Mo_write_4 : decode b_Mo_write 4 = .ok (.ifCond .eq 6, 3) := by decide +kernel
theorem d_Mo_write_7 : decode b_Mo_write 7 = .ok (.bipush (-2), 2) := by decide +kernel
theorem d_Mo_write_9 : decode b_Mo_write 9 = .ok (.ireturn, 1) := by decide +kernel
theorem d_Mo_write_10 : decode b_Mo_write 10 = .ok (.aload_n 0, 1) := by decide +kernel
theorem d_Mo_write_11 : decode b_Mo_write 11 = .ok (.iload_n 1, 1) := by decide +kernel
theorem d_Mo_write_12 : decode b_Mo_write 12 = .ok (.invokevirtual 46, 3) := by decide +kernel
theorem d_Mo_write_15 : decode b_Mo_write 15 = .ok (.ifCond .eq 51, 3) := by decide +kernel
theorem d_Mo_write_18 : decode b_Mo_write 18 = .ok (.iload_n 2, 1) := by decide +kernel
theorem d_Mo_write_19 : decode b_Mo_write 19 = .ok (.invokestatic 61, 3) := by decide +kernel
theorem d_Mo_write_22 : decode b_Mo_write 22 = .ok (.ifCond .eq 44, 3) := by decide +kernel
theorem d_Mo_write_25 : decode b_Mo_write 25 = .ok (.iload 4, 2) := by decide +kernel
theorem d_Mo_write_27 : decode b_Mo_write 27 = .ok (.iconst 1, 1) := by decide +kernel
theorem d_Mo_write_28 : decode b_Mo_write 28 = .ok (.if_icmp .lt 38, 3) := by decide +kernel
theorem d_Mo_write_31 : decode b_Mo_write 31 = .ok (.iload 4, 2) := by decide +kernel
theorem d_Mo_write_33 : decode b_Mo_write 33 = .ok (.sipush 128, 3) := by decide +kernel
theorem d_Mo_write_36 : decode b_Mo_write 36 = .ok (.if_icmp .gt 30, 3) := by decide +kernel
theorem d_Mo_write_39 : decode b_Mo_write 39 = .ok (.iload_n 3, 1) := by decide +kernel
theorem d_Mo_write_40 : decode b_Mo_write 40 = .ok (.ifCond .lt 26, 3) := by decide +kernel
theorem d_Mo_write_43 : decode b_Mo_write 43 = .ok (.iload_n 3, 1) := by decide +kernel
theorem d_Mo_write_44 : decode b_Mo_write 44 = .ok (.sipush 128, 3) := by decide +kernel
theorem d_Mo_write_47 : decode b_Mo_write 47 = .ok (.iload 4, 2) := by decide +kernel
theorem d_Mo_write_49 : decode b_Mo_write 49 = .ok (.isub, 1) := by decide +kernel
theorem d_Mo_write_50 : decode b_Mo_write 50 = .ok (.if_icmp .gt 16, 3) := by decide +kernel
theorem d_Mo_write_53 : decode b_Mo_write 53 = .ok (.iload 5, 2) := by decide +kernel
theorem d_Mo_write_55 : decode b_Mo_write 55 = .ok (.ifCond .lt 11, 3) := by decide +kernel
theorem d_Mo_write_58 : decode b_Mo_write 58 = .ok (.iload 5, 2) := by decide +kernel
theorem d_Mo_write_60 : decode b_Mo_write 60 = .ok (.sipush 255, 3) := by decide +kernel
theorem d_Mo_write_63 : decode b_Mo_write 63 = .ok (.if_icmp .le 5, 3) := by decide +kernel
theorem d_Mo_write_66 : decode b_Mo_write 66 = .ok (.iconst (-1), 1) := by decide +kernel
theorem d_Mo_write_67 : decode b_Mo_write 67 = .ok (.ireturn, 1) := by decide +kernel
theorem d_Mo_write_68 : decode b_Mo_write 68 = .ok (.sipush 128, 3) := by decide +kernel
theorem d_Mo_write_71 : decode b_Mo_write 71 = .ok (.iload_n 1, 1) := by decide +kernel
theorem d_Mo_write_72 : decode b_Mo_write 72 = .ok (.imul, 1) := by decide +kernel
theorem d_Mo_write_73 : decode b_Mo_write 73 = .ok (.iload_n 2, 1) := by decide +kernel
theorem d_Mo_write_74 : decode b_Mo_write 74 = .ok (.iadd, 1) := by decide +kernel
theorem d_Mo_write_75 : decode b_Mo_write 75 = .ok (.istore 6, 2) := by decide +kernel
theorem d_Mo_write_77 : decode b_Mo_write 77 = .ok (.aload_n 0, 1) := by decide +kernel
theorem d_Mo_write_78 : decode b_Mo_write 78 = .ok (.getfield 13, 3) := by decide +kernel
theorem d_Mo_write_81 : decode b_Mo_write 81 = .ok (.iload 6, 2) := by decide +kernel
theorem d_Mo_write_83 : decode b_Mo_write 83 = .ok (.iaload, 1) := by decide +kernel
theorem d_Mo_write_84 : decode b_Mo_write 84 = .ok (.ifCond .ge 16, 3) := by decide +kernel
theorem d_Mo_write_87 : decode b_Mo_write 87 = .ok (.aload_n 0, 1) := by decide +kernel
theorem d_Mo_write_88 : decode b_Mo_write 88 = .ok (.invokevirtual 50, 3) := by decide +kernel
theorem d_Mo_write_91 : decode b_Mo_write 91 = .ok (.sipush 300, 3) := by decide +kernel
theorem d_Mo_write_94 : decode b_Mo_write 94 = .ok (.if_icmp .ne 6, 3) := by decide +kernel
theorem d_Mo_write_97 : decode b_Mo_write 97 = .ok (.bipush (-3), 2) := by decide +kernel
theorem d_Mo_write_99 : decode b_Mo_write 99 = .ok (.ireturn, 1) := by decide +kernel
theorem d_Mo_write_100 : decode b_Mo_write 100 = .ok (.aload_n 0, 1) := by decide +kernel
theorem d_Mo_write_101 : decode b_Mo_write 101 = .ok (.getfield 13, 3) := by decide +kernel
theorem d_Mo_write_104 : decode b_Mo_write 104 = .ok (.iload 6, 2) := by decide +kernel
theorem d_Mo_write_106 : decode b_Mo_write 106 = .ok (.iaload, 1) := by decide +kernel
theorem d_Mo_write_107 : decode b_Mo_write 107 = .ok (.ifCond .ge 14, 3) := by decide +kernel
theorem d_Mo_write_110 : decode b_Mo_write 110 = .ok (.aload_n 0, 1) := by decide +kernel
theorem d_Mo_write_111 : decode b_Mo_write 111 = .ok (.getfield 13, 3) := by decide +kernel
theorem d_Mo_write_114 : decode b_Mo_write 114 = .ok (.iload 6, 2) := by decide +kernel
theorem d_Mo_write_116 : decode b_Mo_write 116 = .ok (.aload_n 0, 1) := by decide +kernel
theorem d_Mo_write_117 : decode b_Mo_write 117 = .ok (.invokevirtual 54, 3) := by decide +kernel
theorem d_Mo_write_120 : decode b_Mo_write 120 = .ok (.iastore, 1) := by decide +kernel
theorem d_Mo_write_121 : decode b_Mo_write 121 = .ok (.aload_n 0, 1) := by decide +kernel
theorem d_Mo_write_122 : decode b_Mo_write 122 = .ok (.dup, 1) := by decide +kernel
theorem d_Mo_write_123 : decode b_Mo_write 123 = .ok (.getfield 64, 3) := by decide +kernel
theorem d_Mo_write_126 : decode b_Mo_write 126 = .ok (.iconst 1, 1) := by decide +kernel
theorem d_Mo_write_127 : decode b_Mo_write 127 = .ok (.iadd, 1) := by decide +kernel
theorem d_Mo_write_128 : decode b_Mo_write 128 = .ok (.putfield 64, 3) := by decide +kernel
theorem d_Mo_write_131 : decode b_Mo_write 131 = .ok (.aload_n 0, 1) := by decide +kernel
theorem d_Mo_write_132 : decode b_Mo_write 132 = .ok (.getfield 17, 3) := by decide +kernel
theorem d_Mo_write_135 : decode b_Mo_write 135 = .ok (.iload 6, 2) := by decide +kernel
theorem d_Mo_write_137 : decode b_Mo_write 137 = .ok (.aload_n 0, 1) := by decide +kernel
theorem d_Mo_write_138 : decode b_Mo_write 138 = .ok (.getfield 64, 3) := by decide +kernel
theorem d_Mo_write_141 : decode b_Mo_write 141 = .ok (.iastore, 1) := by decide +kernel
theorem d_Mo_write_142 : decode b_Mo_write 142 = .ok (.iload_n 3, 1) := by decide +kernel
theorem d_Mo_write_143 : decode b_Mo_write 143 = .ok (.istore 7, 2) := by decide +kernel
theorem d_Mo_write_145 : decode b_Mo_write 145 = .ok (.iload 7, 2) := by decide +kernel
theorem d_Mo_write_147 : decode b_Mo_write 147 = .ok (.iload_n 3, 1) := by decide +kernel
theorem d_Mo_write_148 : decode b_Mo_write 148 = .ok (.iload 4, 2) := by decide +kernel
theorem d_Mo_write_150 : decode b_Mo_write 150 = .ok (.iadd, 1) := by decide +kernel
theorem d_Mo_write_151 : decode b_Mo_write 151 = .ok (.if_icmp .ge 31, 3) := by decide +kernel
theorem d_Mo_write_154 : decode b_Mo_write 154 = .ok (.aload_n 0, 1) := by decide +kernel
theorem d_Mo_write_155 : decode b_Mo_write 155 = .ok (.getfield 24, 3) := by decide +kernel
theorem d_Mo_write_158 : decode b_Mo_write 158 = .ok (.sipush 128, 3) := by decide +kernel
theorem d_Mo_write_161 : decode b_Mo_write 161 = .ok (.aload_n 0, 1) := by decide +kernel
theorem d_Mo_write_162 : decode b_Mo_write 162 = .ok (.getfield 13, 3) := by decide +kernel
theorem d_Mo_write_165 : decode b_Mo_write 165 = .ok (.iload 6, 2) := by decide +kernel
theorem d_Mo_write_167 : decode b_Mo_write 167 = .ok (.iaload, 1) := by decide +kernel
theorem d_Mo_write_168 : decode b_Mo_write 168 = .ok (.imul, 1) := by decide +kernel
theorem d_Mo_write_169 : decode b_Mo_write 169 = .ok (.iload 7, 2) := by decide +kernel
theorem d_Mo_write_171 : decode b_Mo_write 171 = .ok (.iadd, 1) := by decide +kernel
theorem d_Mo_write_172 : decode b_Mo_write 172 = .ok (.iload 5, 2) := by decide +kernel
theorem d_Mo_write_174 : decode b_Mo_write 174 = .ok (.i2b, 1) := by decide +kernel
theorem d_Mo_write_175 : decode b_Mo_write 175 = .ok (.bastore, 1) := by decide +kernel
theorem d_Mo_write_176 : decode b_Mo_write 176 = .ok (.iinc 7 1, 3) := by decide +kernel
theorem d_Mo_write_179 : decode b_Mo_write 179 = .ok (.goto (-34), 3) := by decide +kernel
theorem d_Mo_write_182 : decode b_Mo_write 182 = .ok (.aload_n 0, 1) := by decide +kernel
theorem d_Mo_write_183 : decode b_Mo_write 183 = .ok (.iload_n 1, 1) := by decide +kernel
theorem d_Mo_write_184 : decode b_Mo_write 184 = .ok (.invokevirtual 42, 3) := by decide +kernel
theorem d_Mo_write_187 : decode b_Mo_write 187 = .ok (.ireturn, 1) := by decide +kernel
theorem d_Mo_read_0 : decode b_Mo_read 0 = .ok (.aload_n 0, 1) := by decide +kernel
theorem d_Mo_read_1 : decode b_Mo_read 1 = .ok (.getfield 38, 3) := by decide +kernel
theorem d_Mo_read_4 : decode b_Mo_read 4 = .ok (.ifCond .eq 6, 3) := by decide +kernel
theorem d_Mo_read_7 : decode b_Mo_read 7 = .ok (.bipush (-2), 2) := by decide +kernel
theorem d_Mo_read_9 : decode b_Mo_read 9 = .ok (.ireturn, 1) := by decide +kernel
theorem d_Mo_read_10 : decode b_Mo_read 10 = .ok (.aload_n 0, 1) := by decide +kernel
theorem d_Mo_read_11 : decode b_Mo_read 11 = .ok (.iload_n 1, 1) := by decide +kernel
theorem d_Mo_read_12 : decode b_Mo_read 12 = .ok (.invokevirtual 46, 3) := by decide +kernel
theorem d_Mo_read_15 : decode b_Mo_read 15 = .ok (.ifCond .eq 21, 3) := by decide +kernel
theorem d_Mo_read_18 : decode b_Mo_read 18 = .ok (.iload_n 2, 1) := by decide +kernel
theorem d_Mo_read_19 : decode b_Mo_read 19 = .ok (.invokestatic 61, 3) := by decide +kernel
theorem d_Mo_read_22 : decode b_Mo_read 22 = .ok (.ifCond .eq 14, 3) := by decide +kernel
theorem d_Mo_read_25 : decode b_Mo_read 25 = .ok (.iload_n 3, 1) := by decide +kernel
theorem d_Mo_read_26 : decode b_Mo_read 26 = .ok (.ifCond .lt 10, 3) := by decide +kernel
theorem d_Mo_read_29 : decode b_Mo_read 29 = .ok (.iload_n 3, 1) := by decide +kernel
theorem d_Mo_read_30 : decode b_Mo_read 30 = .ok (.sipush 128, 3) := by decide +kernel
theorem d_Mo_read_33 : decode b_Mo_read 33 = .ok (.if_icmp .lt 5, 3) := by decide +kernel
theorem d_Mo_read_36 : decode b_Mo_read 36 = .ok (.iconst (-1), 1) := by decide +kernel
theorem d_Mo_read_37 : decode b_Mo_read 37 = .ok (.ireturn, 1) := by decide +kernel
theorem d_Mo_read_38 : decode b_Mo_read 38 = .ok (.aload_n 0, 1) := by decide +kernel
theorem d_Mo_read_39 : decode b_Mo_read 39 = .ok (.getfield 13, 3) := by decide +kernel
theorem d_Mo_read_42 : decode b_Mo_read 42 = .ok (.sipush 128, 3) := by decide +kernel
theorem d_Mo_read_45 : decode b_Mo_read 45 = .ok (.iload_n 1, 1) := by decide +kernel
theorem d_Mo_read_46 : decode b_Mo_read 46 = .ok (.imul, 1) := by decide +kernel
theorem d_Mo_read_47 : decode b_Mo_read 47 = .ok (.iload_n 2, 1) := by decide +kernel
theorem d_Mo_read_48 : decode b_Mo_read 48 = .ok (.iadd, 1) := by decide +kernel
theorem d_Mo_read_49 : decode b_Mo_read 49 = .ok (.iaload, 1) := by decide +kernel
theorem d_Mo_read_50 : decode b_Mo_read 50 = .ok (.istore 4, 2) := by decide +kernel
theorem d_Mo_read_52 : decode b_Mo_read 52 = .ok (.iload 4, 2) := by decide +kernel
theorem d_Mo_read_54 : decode b_Mo_read 54 = .ok (.ifCond .ge 7, 3) := by decide +kernel
theorem d_Mo_read_57 : decode b_Mo_read 57 = .ok (.iconst 0, 1) := by decide +kernel
theorem d_Mo_read_58 : decode b_Mo_read 58 = .ok (.goto 20, 3) := by decide +kernel
theorem d_Mo_read_61 : decode b_Mo_read 61 = .ok (.aload_n 0, 1) := by decide +kernel
theorem d_Mo_read_62 : decode b_Mo_read 62 = .ok (.getfield 24, 3) := by decide +kernel
theorem d_Mo_read_65 : decode b_Mo_read 65 = .ok (.sipush 128, 3) := by decide +kernel
theorem d_Mo_read_68 : decode b_Mo_read 68 = .ok (.iload 4, 2) := by decide +kernel
theorem d_Mo_read_70 : decode b_Mo_read 70 = .ok (.imul, 1) := by decide +kernel
theorem d_Mo_read_71 : decode b_Mo_read 71 = .ok (.iload_n 3, 1) := by decide +kernel
theorem d_Mo_read_72 : decode b_Mo_read 72 = .ok (.iadd, 1) := by decide +kernel
theorem d_Mo_read_73 : decode b_Mo_read 73 = .ok (.baload, 1) := by decide +kernel
theorem d_Mo_read_74 : decode b_Mo_read 74 = .ok (.sipush 255, 3) := by decide +kernel
theorem d_Mo_read_77 : decode b_Mo_read 77 = .ok (.iand, 1) := by decide +kernel
theorem d_Mo_read_78 : decode b_Mo_read 78 = .ok (.ireturn, 1) := by decide +kernel
theorem d_Mo_trim_0 : decode b_Mo_trim 0 = .ok (.aload_n 0, 1) := by decide +kernel
theorem d_Mo_trim_1 : decode b_Mo_trim 1 = .ok (.getfield 38, 3) := by decide +kernel
theorem d_Mo_trim_4 : decode b_Mo_trim 4 = .ok (.ifCond .eq 6, 3) := by decide +kernel
theorem d_Mo_trim_7 : decode b_Mo_trim 7 = .ok (.bipush (-2), 2) := by decide +kernel
theorem d_Mo_trim_9 : decode b_Mo_trim 9 = .ok (.ireturn, 1) := by decide +kernel
theorem d_Mo_trim_10 : decode b_Mo_trim 10 = .ok (.aload_n 0, 1) := by decide +kernel
theorem d_Mo_trim_11 : decode b_Mo_trim 11 = .ok (.iload_n 1, 1) := by decide +kernel
theorem d_Mo_trim_12 : decode b_Mo_trim 12 = .ok (.invokevirtual 46, 3) := by decide +kernel
theorem d_Mo_trim_15 : decode b_Mo_trim 15 = .ok (.ifCond .eq 22, 3) := by decide +kernel
theorem d_Mo_trim_18 : decode b_Mo_trim 18 = .ok (.iload_n 2, 1) := by decide +kernel
theorem d_Mo_trim_19 : decode b_Mo_trim 19 = .ok (.invokestatic 61, 3) := by decide +kernel
theorem d_Mo_trim_22 : decode b_Mo_trim 22 = .ok (.ifCond .eq 15, 3) := by decide +kernel
theorem d_Mo_trim_25 : decode b_Mo_trim 25 = .ok (.iload_n 3, 1) := by decide +kernel
theorem d_Mo_trim_26 : decode b_Mo_trim 26 = .ok (.invokestatic 61, 3) := by decide +kernel
theorem d_Mo_trim_29 : decode b_Mo_trim 29 = .ok (.ifCond .eq 8, 3) := by decide +kernel
theorem d_Mo_trim_32 : decode b_Mo_trim 32 = .ok (.iload_n 3, 1) := by decide +kernel
theorem d_Mo_trim_33 : decode b_Mo_trim 33 = .ok (.iload_n 2, 1) := by decide +kernel
theorem d_Mo_trim_34 : decode b_Mo_trim 34 = .ok (.if_icmp .ge 5, 3) := by decide +kernel
theorem d_Mo_trim_37 : decode b_Mo_trim 37 = .ok (.iconst (-1), 1) := by decide +kernel
theorem d_Mo_trim_38 : decode b_Mo_trim 38 = .ok (.ireturn, 1) := by decide +kernel
theorem d_Mo_trim_39 : decode b_Mo_trim 39 = .ok (.aload_n 0, 1) := by decide +kernel
theorem d_Mo_trim_40 : decode b_Mo_trim 40 = .ok (.iload_n 1, 1) := by decide +kernel
theorem d_Mo_trim_41 : decode b_Mo_trim 41 = .ok (.invokevirtual 42, 3) := by decide +kernel
theorem d_Mo_trim_44 : decode b_Mo_trim 44 = .ok (.istore 4, 2) := by decide +kernel
theorem d_Mo_trim_46 : decode b_Mo_trim 46 = .ok (.iload_n 2, 1) := by decide +kernel
theorem d_Mo_trim_47 : decode b_Mo_trim 47 = .ok (.istore 5, 2) := by decide +kernel
theorem d_Mo_trim_49 : decode b_Mo_trim 49 = .ok (.iload 5, 2) := by decide +kernel
theorem d_Mo_trim_51 : decode b_Mo_trim 51 = .ok (.iload_n 3, 1) := by decide +kernel
theorem d_Mo_trim_52 : decode b_Mo_trim 52 = .ok (.if_icmp .gt 21, 3) := by decide +kernel
theorem d_Mo_trim_55 : decode b_Mo_trim 55 = .ok (.aload_n 0, 1) := by decide +kernel
theorem d_Mo_trim_56 : decode b_Mo_trim 56 = .ok (.sipush 128, 3) := by decide +kernel
theorem d_Mo_trim_59 : decode b_Mo_trim 59 = .ok (.iload_n 1, 1) := by decide +kernel
theorem d_Mo_trim_60 : decode b_Mo_trim 60 = .ok (.imul, 1) := by decide +kernel
theorem d_Mo_trim_61 : decode b_Mo_trim 61 = .ok (.iload 5, 2) := by decide +kernel
theorem d_Mo_trim_63 : decode b_Mo_trim 63 = .ok (.iadd, 1) := by decide +kernel
theorem d_Mo_trim_64 : decode b_Mo_trim 64 = .ok (.invokevirtual 57, 3) := by decide +kernel
theorem d_Mo_trim_67 : decode b_Mo_trim 67 = .ok (.iinc 5 1, 3) := by decide +kernel
theorem d_Mo_trim_70 : decode b_Mo_trim 70 = .ok (.goto (-21), 3) := by decide +kernel
theorem d_Mo_trim_73 : decode b_Mo_trim 73 = .ok (.iload 4, 2) := by decide +kernel
theorem d_Mo_trim_75 : decode b_Mo_trim 75 = .ok (.aload_n 0, 1) := by decide +kernel
theorem d_Mo_trim_76 : decode b_Mo_trim 76 = .ok (.iload_n 1, 1) := by decide +kernel
theorem d_Mo_trim_77 : decode b_Mo_trim 77 = .ok (.invokevirtual 42, 3) := by decide +kernel
theorem d_Mo_trim_80 : decode b_Mo_trim 80 = .ok (.isub, 1) := by decide +kernel
theorem d_Mo_trim_81 : decode b_Mo_trim 81 = .ok (.ireturn, 1) := by decide +kernel
theorem d_Mo_pieces_0 : decode b_Mo_pieces 0 = .ok (.aload_n 0, 1) := by decide +kernel
theorem d_Mo_pieces_1 : decode b_Mo_pieces 1 = .ok (.getfield 38, 3) := by decide +kernel
theorem d_Mo_pieces_4 : decode b_Mo_pieces 4 = .ok (.ifCond .eq 6, 3) := by decide +kernel
theorem d_Mo_pieces_7 : decode b_Mo_pieces 7 = .ok (.bipush (-2), 2) := by decide +kernel
theorem d_Mo_pieces_9 : decode b_Mo_pieces 9 = .ok (.ireturn, 1) := by decide +kernel
theorem d_Mo_pieces_10 : decode b_Mo_pieces 10 = .ok (.iload_n 1, 1) := by decide +kernel
theorem d_Mo_pieces_11 : decode b_Mo_pieces 11 = .ok (.iconst (-1), 1) := by decide +kernel
theorem d_Mo_pieces_12 : decode b_Mo_pieces 12 = .ok (.if_icmp .ne 8, 3) := by decide +kernel
theorem d_Mo_pieces_15 : decode b_Mo_pieces 15 = .ok (.aload_n 0, 1) := by decide +kernel
theorem d_Mo_pieces_16 : decode b_Mo_pieces 16 = .ok (.invokevirtual 50, 3) := by decide +kernel
theorem d_Mo_pieces_19 : decode b_Mo_pieces 19 = .ok (.ireturn, 1) := by decide +kernel
theorem d_Mo_pieces_20 : decode b_Mo_pieces 20 = .ok (.aload_n 0, 1) := by decide +kernel
theorem d_Mo_pieces_21 : decode b_Mo_pieces 21 = .ok (.iload_n 1, 1) := by decide +kernel
theorem d_Mo_pieces_22 : decode b_Mo_pieces 22 = .ok (.invokevirtual 46, 3) := by decide +kernel
theorem d_Mo_pieces_25 : decode b_Mo_pieces 25 = .ok (.ifCond .eq 11, 3) := by decide +kernel
theorem d_Mo_pieces_28 : decode b_Mo_pieces 28 = .ok (.aload_n 0, 1) := by decide +kernel
theorem d_Mo_pieces_29 : decode b_Mo_pieces 29 = .ok (.iload_n 1, 1) := by decide +kernel
theorem d_Mo_pieces_30 : decode b_Mo_pieces 30 = .ok (.invokevirtual 42, 3) := by decide +kernel
theorem d_Mo_pieces_33 : decode b_Mo_pieces 33 = .ok (.goto 4, 3) := by decide +kernel
theorem d_Mo_pieces_36 : decode b_Mo_pieces 36 = .ok (.iconst (-1), 1) := by decide +kernel
theorem d_Mo_pieces_37 : decode b_Mo_pieces 37 = .ok (.ireturn, 1) := by decide +kernel
theorem d_Mo_next_0 : decode b_Mo_next 0 = .ok (.aload_n 0, 1) := by decide +kernel
theorem d_Mo_next_1 : decode b_Mo_next 1 = .ok (.getfield 38, 3) := by decide +kernel
theorem d_Mo_next_4 : decode b_Mo_next 4 = .ok (.ifCond .eq 6, 3) := by decide +kernel
theorem d_Mo_next_7 : decode b_Mo_next 7 = .ok (.bipush (-2), 2) := by decide +kernel
theorem d_Mo_next_9 : decode b_Mo_next 9 = .ok (.ireturn, 1) := by decide +kernel
theorem d_Mo_next_10 : decode b_Mo_next 10 = .ok (.aload_n 0, 1) := by decide +kernel
theorem d_Mo_next_11 : decode b_Mo_next 11 = .ok (.iload_n 1, 1) := by decide +kernel
theorem d_Mo_next_12 : decode b_Mo_next 12 = .ok (.invokevirtual 46, 3) := by decide +kernel
theorem d_Mo_next_15 : decode b_Mo_next 15 = .ok (.ifCond .eq 10, 3) := by decide +kernel
theorem d_Mo_next_18 : decode b_Mo_next 18 = .ok (.iload_n 2, 1) := by decide +kernel
theorem d_Mo_next_19 : decode b_Mo_next 19 = .ok (.invokestatic 61, 3) := by decide +kernel
theorem d_Mo_next_22 : decode b_Mo_next 22 = .ok (.ifCond .ne 5, 3) := by decide +kernel
theorem d_Mo_next_25 : decode b_Mo_next 25 = .ok (.iconst (-1), 1) := by decide +kernel
theorem d_Mo_next_26 : decode b_Mo_next 26 = .ok (.ireturn, 1) := by decide +kernel
theorem d_Mo_next_27 : decode b_Mo_next 27 = .ok (.iload_n 2, 1) := by decide +kernel
theorem d_Mo_next_28 : decode b_Mo_next 28 = .ok (.istore_n 3, 1) := by decide +kernel
theorem d_Mo_next_29 : decode b_Mo_next 29 = .ok (.iload_n 3, 1) := by decide +kernel
theorem d_Mo_next_30 : decode b_Mo_next 30 = .ok (.sipush 128, 3) := by decide +kernel
theorem d_Mo_next_33 : decode b_Mo_next 33 = .ok (.if_icmp .ge 24, 3) := by decide +kernel
theorem d_Mo_next_36 : decode b_Mo_next 36 = .ok (.aload_n 0, 1) := by decide +kernel
theorem d_Mo_next_37 : decode b_Mo_next 37 = .ok (.getfield 13, 3) := by decide +kernel
theorem d_Mo_next_40 : decode b_Mo_next 40 = .ok (.sipush 128, 3) := by decide +kernel
theorem d_Mo_next_43 : decode b_Mo_next 43 = .ok (.iload_n 1, 1) := by decide +kernel
theorem d_Mo_next_44 : decode b_Mo_next 44 = .ok (.imul, 1) := by decide +kernel
theorem d_Mo_next_45 : decode b_Mo_next 45 = .ok (.iload_n 3, 1) := by decide +kernel
theorem d_Mo_next_46 : decode b_Mo_next 46 = .ok (.iadd, 1) := by decide +kernel
theorem d_Mo_next_47 : decode b_Mo_next 47 = .ok (.iaload, 1) := by decide +kernel
theorem d_Mo_next_48 : decode b_Mo_next 48 = .ok (.ifCond .ge 9, 3) := by decide +kernel
theorem d_Mo_next_51 : decode b_Mo_next 51 = .ok (.iinc 3 1, 3) := by decide +kernel
theorem d_Mo_next_54 : decode b_Mo_next 54 = .ok (.goto (-25), 3) := by decide +kernel
theorem d_Mo_next_57 : decode b_Mo_next 57 = .ok (.iload_n 3, 1) := by decide +kernel
theorem d_Mo_next_58 : decode b_Mo_next 58 = .ok (.ireturn, 1) := by decide +kernel
theorem d_Mo_shared_0 : decode b_Mo_shared 0 = .ok (.aload_n 0, 1) := by decide +kernel
theorem d_Mo_shared_1 : decode b_Mo_shared 1 = .ok (.getfield 38, 3) := by decide +kernel
theorem d_Mo_shared_4 : decode b_Mo_shared 4 = .ok (.ifCond .eq 6, 3) := by decide +kernel
theorem d_Mo_shared_7 : decode b_Mo_shared 7 = .ok (.bipush (-2), 2) := by decide +kernel
theorem d_Mo_shared_9 : decode b_Mo_shared 9 = .ok (.ireturn, 1) := by decide +kernel
theorem d_Mo_shared_10 : decode b_Mo_shared 10 = .ok (.aload_n 0, 1) := by decide +kernel
theorem d_Mo_shared_11 : decode b_Mo_shared 11 = .ok (.iload_n 1, 1) := by decide +kernel
theorem d_Mo_shared_12 : decode b_Mo_shared 12 = .ok (.invokevirtual 46, 3) := by decide +kernel
theorem d_Mo_shared_15 : decode b_Mo_shared 15 = .ok (.ifCond .eq 10, 3) := by decide +kernel
theorem d_Mo_shared_18 : decode b_Mo_shared 18 = .ok (.iload_n 2, 1) := by decide +kernel
theorem d_Mo_shared_19 : decode b_Mo_shared 19 = .ok (.invokestatic 61, 3) := by decide +kernel
theorem d_Mo_shared_22 : decode b_Mo_shared 22 = .ok (.ifCond .ne 5, 3) := by decide +kernel
theorem d_Mo_shared_25 : decode b_Mo_shared 25 = .ok (.iconst (-1), 1) := by decide +kernel
theorem d_Mo_shared_26 : decode b_Mo_shared 26 = .ok (.ireturn, 1) := by decide +kernel
theorem d_Mo_shared_27 : decode b_Mo_shared 27 = .ok (.sipush 128, 3) := by decide +kernel
theorem d_Mo_shared_30 : decode b_Mo_shared 30 = .ok (.iload_n 1, 1) := by decide +kernel
theorem d_Mo_shared_31 : decode b_Mo_shared 31 = .ok (.imul, 1) := by decide +kernel
theorem d_Mo_shared_32 : decode b_Mo_shared 32 = .ok (.iload_n 2, 1) := by decide +kernel
theorem d_Mo_shared_33 : decode b_Mo_shared 33 = .ok (.iadd, 1) := by decide +kernel
theorem d_Mo_shared_34 : decode b_Mo_shared 34 = .ok (.istore_n 3, 1) := by decide +kernel
theorem d_Mo_shared_35 : decode b_Mo_shared 35 = .ok (.aload_n 0, 1) := by decide +kernel
theorem d_Mo_shared_36 : decode b_Mo_shared 36 = .ok (.getfield 13, 3) := by decide +kernel
theorem d_Mo_shared_39 : decode b_Mo_shared 39 = .ok (.iload_n 3, 1) := by decide +kernel
theorem d_Mo_shared_40 : decode b_Mo_shared 40 = .ok (.iaload, 1) := by decide +kernel
theorem d_Mo_shared_41 : decode b_Mo_shared 41 = .ok (.ifCond .ge 5, 3) := by decide +kernel
theorem d_Mo_shared_44 : decode b_Mo_shared 44 = .ok (.iconst 0, 1) := by decide +kernel
theorem d_Mo_shared_45 : decode b_Mo_shared 45 = .ok (.ireturn, 1) := by decide +kernel
theorem d_Mo_shared_46 : decode b_Mo_shared 46 = .ok (.iconst 0, 1) := by decide +kernel
theorem d_Mo_shared_47 : decode b_Mo_shared 47 = .ok (.istore 4, 2) := by decide +kernel
theorem d_Mo_shared_49 : decode b_Mo_shared 49 = .ok (.iload 4, 2) := by decide +kernel
theorem d_Mo_shared_51 : decode b_Mo_shared 51 = .ok (.bipush 16, 2) := by decide +kernel
theorem d_Mo_shared_53 : decode b_Mo_shared 53 = .ok (.if_icmp .ge 53, 3) := by decide +kernel
theorem d_Mo_shared_56 : decode b_Mo_shared 56 = .ok (.sipush 128, 3) := by decide +kernel
theorem d_Mo_shared_59 : decode b_Mo_shared 59 = .ok (.iload 4, 2) := by decide +kernel
theorem d_Mo_shared_61 : decode b_Mo_shared 61 = .ok (.imul, 1) := by decide +kernel
theorem d_Mo_shared_62 : decode b_Mo_shared 62 = .ok (.iload_n 2, 1) := by decide +kernel
theorem d_Mo_shared_63 : decode b_Mo_shared 63 = .ok (.iadd, 1) := by decide +kernel
theorem d_Mo_shared_64 : decode b_Mo_shared 64 = .ok (.istore 5, 2) := by decide +kernel
theorem d_Mo_shared_66 : decode b_Mo_shared 66 = .ok (.iload 4, 2) := by decide +kernel
theorem d_Mo_shared_68 : decode b_Mo_shared 68 = .ok (.iload_n 1, 1) := by decide +kernel
theorem d_Mo_shared_69 : decode b_Mo_shared 69 = .ok (.if_icmp .eq 31, 3) := by decide +kernel
theorem d_Mo_shared_72 : decode b_Mo_shared 72 = .ok (.aload_n 0, 1) := by decide +kernel
theorem d_Mo_shared_73 : decode b_Mo_shared 73 = .ok (.getfield 13, 3) := by decide +kernel
theorem d_Mo_shared_76 : decode b_Mo_shared 76 = .ok (.iload 5, 2) := by decide +kernel
theorem d_Mo_shared_78 : decode b_Mo_shared 78 = .ok (.iaload, 1) := by decide +kernel
theorem d_Mo_shared_79 : decode b_Mo_shared 79 = .ok (.ifCond .lt 21, 3) := by decide +kernel
theorem d_Mo_shared_82 : decode b_Mo_shared 82 = .ok (.aload_n 0, 1) := by decide +kernel
theorem d_Mo_shared_83 : decode b_Mo_shared 83 = .ok (.getfield 17, 3) := by decide +kernel
theorem d_Mo_shared_86 : decode b_Mo_shared 86 = .ok (.iload 5, 2) := by decide +kernel
theorem d_Mo_shared_88 : decode b_Mo_shared 88 = .ok (.iaload, 1) := by decide +kernel
theorem d_Mo_shared_89 : decode b_Mo_shared 89 = .ok (.aload_n 0, 1) := by decide +kernel
theorem d_Mo_shared_90 : decode b_Mo_shared 90 = .ok (.getfield 17, 3) := by decide +kernel
theorem d_Mo_shared_93 : decode b_Mo_shared 93 = .ok (.iload_n 3, 1) := by decide +kernel
theorem d_Mo_shared_94 : decode b_Mo_shared 94 = .ok (.iaload, 1) := by decide +kernel
theorem d_Mo_shared_95 : decode b_Mo_shared 95 = .ok (.if_icmp .ne 5, 3) := by decide +kernel
theorem d_Mo_shared_98 : decode b_Mo_shared 98 = .ok (.iconst 1, 1) := by decide +kernel
theorem d_Mo_shared_99 : decode b_Mo_shared 99 = .ok (.ireturn, 1) := by decide +kernel
theorem d_Mo_shared_100 : decode b_Mo_shared 100 = .ok (.iinc 4 1, 3) := by decide +kernel
theorem d_Mo_shared_103 : decode b_Mo_shared 103 = .ok (.goto (-54), 3) := by decide +kernel
theorem d_Mo_shared_106 : decode b_Mo_shared 106 = .ok (.iconst 0, 1) := by decide +kernel
theorem d_Mo_shared_107 : decode b_Mo_shared 107 = .ok (.ireturn, 1) := by decide +kernel
theorem d_Mo_tell_0 : decode b_Mo_tell 0 = .ok (.aload_n 0, 1) := by decide +kernel
theorem d_Mo_tell_1 : decode b_Mo_tell 1 = .ok (.getfield 38, 3) := by decide +kernel
theorem d_Mo_tell_4 : decode b_Mo_tell 4 = .ok (.ifCond .eq 6, 3) := by decide +kernel
theorem d_Mo_tell_7 : decode b_Mo_tell 7 = .ok (.bipush (-2), 2) := by decide +kernel
theorem d_Mo_tell_9 : decode b_Mo_tell 9 = .ok (.ireturn, 1) := by decide +kernel
theorem d_Mo_tell_10 : decode b_Mo_tell 10 = .ok (.iload_n 1, 1) := by decide +kernel
theorem d_Mo_tell_11 : decode b_Mo_tell 11 = .ok (.ifCond .lt 20, 3) := by decide +kernel
theorem d_Mo_tell_14 : decode b_Mo_tell 14 = .ok (.iload_n 1, 1) := by decide +kernel
theorem d_Mo_tell_15 : decode b_Mo_tell 15 = .ok (.bipush 31, 2) := by decide +kernel
theorem d_Mo_tell_17 : decode b_Mo_tell 17 = .ok (.if_icmp .gt 14, 3) := by decide +kernel
theorem d_Mo_tell_20 : decode b_Mo_tell 20 = .ok (.iload_n 2, 1) := by decide +kernel
theorem d_Mo_tell_21 : decode b_Mo_tell 21 = .ok (.ifCond .lt 10, 3) := by decide +kernel
theorem d_Mo_tell_24 : decode b_Mo_tell 24 = .ok (.iload_n 2, 1) := by decide +kernel
theorem d_Mo_tell_25 : decode b_Mo_tell 25 = .ok (.sipush 255, 3) := by decide +kernel
theorem d_Mo_tell_28 : decode b_Mo_tell 28 = .ok (.if_icmp .le 5, 3) := by decide +kernel
theorem d_Mo_tell_31 : decode b_Mo_tell 31 = .ok (.iconst (-1), 1) := by decide +kernel
theorem d_Mo_tell_32 : decode b_Mo_tell 32 = .ok (.ireturn, 1) := by decide +kernel
theorem d_Mo_tell_33 : decode b_Mo_tell 33 = .ok (.aload_n 0, 1) := by decide +kernel
theorem d_Mo_tell_34 : decode b_Mo_tell 34 = .ok (.getfield 20, 3) := by decide +kernel
theorem d_Mo_tell_37 : decode b_Mo_tell 37 = .ok (.iload_n 1, 1) := by decide +kernel
theorem d_Mo_tell_38 : decode b_Mo_tell 38 = .ok (.iaload, 1) := by decide +kernel
theorem d_Mo_tell_39 : decode b_Mo_tell 39 = .ok (.istore_n 3, 1) := by decide +kernel
theorem d_Mo_tell_40 : decode b_Mo_tell 40 = .ok (.aload_n 0, 1) := by decide +kernel
theorem d_Mo_tell_41 : decode b_Mo_tell 41 = .ok (.getfield 20, 3) := by decide +kernel
theorem d_Mo_tell_44 : decode b_Mo_tell 44 = .ok (.iload_n 1, 1) := by decide +kernel
theorem d_Mo_tell_45 : decode b_Mo_tell 45 = .ok (.iload_n 2, 1) := by decide +kernel
theorem d_Mo_tell_46 : decode b_Mo_tell 46 = .ok (.iastore, 1) := by decide +kernel
theorem d_Mo_tell_47 : decode b_Mo_tell 47 = .ok (.iload_n 3, 1) := by decide +kernel
theorem d_Mo_tell_48 : decode b_Mo_tell 48 = .ok (.ireturn, 1) := by decide +kernel
theorem d_Mo_told_0 : decode b_Mo_told 0 = .ok (.aload_n 0, 1) := by decide +kernel
theorem d_Mo_told_1 : decode b_Mo_told 1 = .ok (.getfield 38, 3) := by decide +kernel
theorem d_Mo_told_4 : decode b_Mo_told 4 = .ok (.ifCond .eq 6, 3) := by decide +kernel
theorem d_Mo_told_7 : decode b_Mo_told 7 = .ok (.bipush (-2), 2) := by decide +kernel
theorem d_Mo_told_9 : decode b_Mo_told 9 = .ok (.ireturn, 1) := by decide +kernel
theorem d_Mo_told_10 : decode b_Mo_told 10 = .ok (.iload_n 1, 1) := by decide +kernel
theorem d_Mo_told_11 : decode b_Mo_told 11 = .ok (.ifCond .lt 9, 3) := by decide +kernel
theorem d_Mo_told_14 : decode b_Mo_told 14 = .ok (.iload_n 1, 1) := by decide +kernel
theorem d_Mo_told_15 : decode b_Mo_told 15 = .ok (.bipush 31, 2) := by decide +kernel
theorem d_Mo_told_17 : decode b_Mo_told 17 = .ok (.if_icmp .le 7, 3) := by decide +kernel
theorem d_Mo_told_20 : decode b_Mo_told 20 = .ok (.iconst (-1), 1) := by decide +kernel
theorem d_Mo_told_21 : decode b_Mo_told 21 = .ok (.goto 9, 3) := by decide +kernel
theorem d_Mo_told_24 : decode b_Mo_told 24 = .ok (.aload_n 0, 1) := by decide +kernel
theorem d_Mo_told_25 : decode b_Mo_told 25 = .ok (.getfield 20, 3) := by decide +kernel
theorem d_Mo_told_28 : decode b_Mo_told 28 = .ok (.iload_n 1, 1) := by decide +kernel
theorem d_Mo_told_29 : decode b_Mo_told 29 = .ok (.iaload, 1) := by decide +kernel
theorem d_Mo_told_30 : decode b_Mo_told 30 = .ok (.ireturn, 1) := by decide +kernel
theorem d_Mo_copy_0 : decode b_Mo_copy 0 = .ok (.iconst 0, 1) := by decide +kernel
theorem d_Mo_copy_1 : decode b_Mo_copy 1 = .ok (.istore_n 3, 1) := by decide +kernel
theorem d_Mo_copy_2 : decode b_Mo_copy 2 = .ok (.iload_n 3, 1) := by decide +kernel
theorem d_Mo_copy_3 : decode b_Mo_copy 3 = .ok (.bipush 16, 2) := by decide +kernel
theorem d_Mo_copy_5 : decode b_Mo_copy 5 = .ok (.if_icmp .ge 31, 3) := by decide +kernel
theorem d_Mo_copy_8 : decode b_Mo_copy 8 = .ok (.aload_n 0, 1) := by decide +kernel
theorem d_Mo_copy_9 : decode b_Mo_copy 9 = .ok (.getfield 7, 3) := by decide +kernel
theorem d_Mo_copy_12 : decode b_Mo_copy 12 = .ok (.bipush 16, 2) := by decide +kernel
theorem d_Mo_copy_14 : decode b_Mo_copy 14 = .ok (.iload_n 2, 1) := by decide +kernel
theorem d_Mo_copy_15 : decode b_Mo_copy 15 = .ok (.imul, 1) := by decide +kernel
theorem d_Mo_copy_16 : decode b_Mo_copy 16 = .ok (.iload_n 3, 1) := by decide +kernel
theorem d_Mo_copy_17 : decode b_Mo_copy 17 = .ok (.iadd, 1) := by decide +kernel
theorem d_Mo_copy_18 : decode b_Mo_copy 18 = .ok (.aload_n 0, 1) := by decide +kernel
theorem d_Mo_copy_19 : decode b_Mo_copy 19 = .ok (.getfield 7, 3) := by decide +kernel
theorem d_Mo_copy_22 : decode b_Mo_copy 22 = .ok (.bipush 16, 2) := by decide +kernel
theorem d_Mo_copy_24 : decode b_Mo_copy 24 = .ok (.iload_n 1, 1) := by decide +kernel
theorem d_Mo_copy_25 : decode b_Mo_copy 25 = .ok (.imul, 1) := by decide +kernel
theorem d_Mo_copy_26 : decode b_Mo_copy 26 = .ok (.iload_n 3, 1) := by decide +kernel
theorem d_Mo_copy_27 : decode b_Mo_copy 27 = .ok (.iadd, 1) := by decide +kernel
theorem d_Mo_copy_28 : decode b_Mo_copy 28 = .ok (.baload, 1) := by decide +kernel
theorem d_Mo_copy_29 : decode b_Mo_copy 29 = .ok (.bastore, 1) := by decide +kernel
theorem d_Mo_copy_30 : decode b_Mo_copy 30 = .ok (.iinc 3 1, 3) := by decide +kernel
theorem d_Mo_copy_33 : decode b_Mo_copy 33 = .ok (.goto (-31), 3) := by decide +kernel
theorem d_Mo_copy_36 : decode b_Mo_copy 36 = .ok (.iconst 0, 1) := by decide +kernel
theorem d_Mo_copy_37 : decode b_Mo_copy 37 = .ok (.istore_n 3, 1) := by decide +kernel
theorem d_Mo_copy_38 : decode b_Mo_copy 38 = .ok (.iload_n 3, 1) := by decide +kernel
theorem d_Mo_copy_39 : decode b_Mo_copy 39 = .ok (.sipush 2048, 3) := by decide +kernel
theorem d_Mo_copy_42 : decode b_Mo_copy 42 = .ok (.if_icmp .ge 78, 3) := by decide +kernel
theorem d_Mo_copy_45 : decode b_Mo_copy 45 = .ok (.aload_n 0, 1) := by decide +kernel
theorem d_Mo_copy_46 : decode b_Mo_copy 46 = .ok (.getfield 13, 3) := by decide +kernel
theorem d_Mo_copy_49 : decode b_Mo_copy 49 = .ok (.sipush 2048, 3) := by decide +kernel
theorem d_Mo_copy_52 : decode b_Mo_copy 52 = .ok (.iload_n 1, 1) := by decide +kernel
theorem d_Mo_copy_53 : decode b_Mo_copy 53 = .ok (.imul, 1) := by decide +kernel
theorem d_Mo_copy_54 : decode b_Mo_copy 54 = .ok (.iload_n 3, 1) := by decide +kernel
theorem d_Mo_copy_55 : decode b_Mo_copy 55 = .ok (.iadd, 1) := by decide +kernel
theorem d_Mo_copy_56 : decode b_Mo_copy 56 = .ok (.iaload, 1) := by decide +kernel
theorem d_Mo_copy_57 : decode b_Mo_copy 57 = .ok (.istore 4, 2) := by decide +kernel
theorem d_Mo_copy_59 : decode b_Mo_copy 59 = .ok (.aload_n 0, 1) := by decide +kernel
theorem d_Mo_copy_60 : decode b_Mo_copy 60 = .ok (.getfield 13, 3) := by decide +kernel
theorem d_Mo_copy_63 : decode b_Mo_copy 63 = .ok (.sipush 2048, 3) := by decide +kernel
theorem d_Mo_copy_66 : decode b_Mo_copy 66 = .ok (.iload_n 2, 1) := by decide +kernel
theorem d_Mo_copy_67 : decode b_Mo_copy 67 = .ok (.imul, 1) := by decide +kernel
theorem d_Mo_copy_68 : decode b_Mo_copy 68 = .ok (.iload_n 3, 1) := by decide +kernel
theorem d_Mo_copy_69 : decode b_Mo_copy 69 = .ok (.iadd, 1) := by decide +kernel
theorem d_Mo_copy_70 : decode b_Mo_copy 70 = .ok (.iload 4, 2) := by decide +kernel
theorem d_Mo_copy_72 : decode b_Mo_copy 72 = .ok (.ifCond .ge 7, 3) := by decide +kernel
theorem d_Mo_copy_75 : decode b_Mo_copy 75 = .ok (.iconst (-1), 1) := by decide +kernel
theorem d_Mo_copy_76 : decode b_Mo_copy 76 = .ok (.goto 13, 3) := by decide +kernel
theorem d_Mo_copy_79 : decode b_Mo_copy 79 = .ok (.iload 4, 2) := by decide +kernel
theorem d_Mo_copy_81 : decode b_Mo_copy 81 = .ok (.sipush 300, 3) := by decide +kernel
theorem d_Mo_copy_84 : decode b_Mo_copy 84 = .ok (.iload_n 2, 1) := by decide +kernel
theorem d_Mo_copy_85 : decode b_Mo_copy 85 = .ok (.iload_n 1, 1) := by decide +kernel
theorem d_Mo_copy_86 : decode b_Mo_copy 86 = .ok (.isub, 1) := by decide +kernel
theorem d_Mo_copy_87 : decode b_Mo_copy 87 = .ok (.imul, 1) := by decide +kernel
theorem d_Mo_copy_88 : decode b_Mo_copy 88 = .ok (.iadd, 1) := by decide +kernel
theorem d_Mo_copy_89 : decode b_Mo_copy 89 = .ok (.iastore, 1) := by decide +kernel
theorem d_Mo_copy_90 : decode b_Mo_copy 90 = .ok (.aload_n 0, 1) := by decide +kernel
theorem d_Mo_copy_91 : decode b_Mo_copy 91 = .ok (.getfield 17, 3) := by decide +kernel
theorem d_Mo_copy_94 : decode b_Mo_copy 94 = .ok (.sipush 2048, 3) := by decide +kernel
theorem d_Mo_copy_97 : decode b_Mo_copy 97 = .ok (.iload_n 2, 1) := by decide +kernel
theorem d_Mo_copy_98 : decode b_Mo_copy 98 = .ok (.imul, 1) := by decide +kernel
theorem d_Mo_copy_99 : decode b_Mo_copy 99 = .ok (.iload_n 3, 1) := by decide +kernel
theorem d_Mo_copy_100 : decode b_Mo_copy 100 = .ok (.iadd, 1) := by decide +kernel
theorem d_Mo_copy_101 : decode b_Mo_copy 101 = .ok (.aload_n 0, 1) := by decide +kernel
theorem d_Mo_copy_102 : decode b_Mo_copy 102 = .ok (.getfield 17, 3) := by decide +kernel
theorem d_Mo_copy_105 : decode b_Mo_copy 105 = .ok (.sipush 2048, 3) := by decide +kernel
theorem d_Mo_copy_108 : decode b_Mo_copy 108 = .ok (.iload_n 1, 1) := by decide +kernel
theorem d_Mo_copy_109 : decode b_Mo_copy 109 = .ok (.imul, 1) := by decide +kernel
theorem d_Mo_copy_110 : decode b_Mo_copy 110 = .ok (.iload_n 3, 1) := by decide +kernel
theorem d_Mo_copy_111 : decode b_Mo_copy 111 = .ok (.iadd, 1) := by decide +kernel
theorem d_Mo_copy_112 : decode b_Mo_copy 112 = .ok (.iaload, 1) := by decide +kernel
theorem d_Mo_copy_113 : decode b_Mo_copy 113 = .ok (.iastore, 1) := by decide +kernel
theorem d_Mo_copy_114 : decode b_Mo_copy 114 = .ok (.iinc 3 1, 3) := by decide +kernel
theorem d_Mo_copy_117 : decode b_Mo_copy 117 = .ok (.goto (-79), 3) := by decide +kernel
theorem d_Mo_copy_120 : decode b_Mo_copy 120 = .ok (.iconst 0, 1) := by decide +kernel
theorem d_Mo_copy_121 : decode b_Mo_copy 121 = .ok (.istore_n 3, 1) := by decide +kernel
theorem d_Mo_copy_122 : decode b_Mo_copy 122 = .ok (.iload_n 3, 1) := by decide +kernel
theorem d_Mo_copy_123 : decode b_Mo_copy 123 = .ok (.bipush 32, 2) := by decide +kernel
theorem d_Mo_copy_125 : decode b_Mo_copy 125 = .ok (.if_icmp .ge 31, 3) := by decide +kernel
theorem d_Mo_copy_128 : decode b_Mo_copy 128 = .ok (.aload_n 0, 1) := by decide +kernel
theorem d_Mo_copy_129 : decode b_Mo_copy 129 = .ok (.getfield 20, 3) := by decide +kernel
theorem d_Mo_copy_132 : decode b_Mo_copy 132 = .ok (.bipush 32, 2) := by decide +kernel
theorem d_Mo_copy_134 : decode b_Mo_copy 134 = .ok (.iload_n 2, 1) := by decide +kernel
theorem d_Mo_copy_135 : decode b_Mo_copy 135 = .ok (.imul, 1) := by decide +kernel
theorem d_Mo_copy_136 : decode b_Mo_copy 136 = .ok (.iload_n 3, 1) := by decide +kernel
theorem d_Mo_copy_137 : decode b_Mo_copy 137 = .ok (.iadd, 1) := by decide +kernel
theorem d_Mo_copy_138 : decode b_Mo_copy 138 = .ok (.aload_n 0, 1) := by decide +kernel
theorem d_Mo_copy_139 : decode b_Mo_copy 139 = .ok (.getfield 20, 3) := by decide +kernel
theorem d_Mo_copy_142 : decode b_Mo_copy 142 = .ok (.bipush 32, 2) := by decide +kernel
theorem d_Mo_copy_144 : decode b_Mo_copy 144 = .ok (.iload_n 1, 1) := by decide +kernel
theorem d_Mo_copy_145 : decode b_Mo_copy 145 = .ok (.imul, 1) := by decide +kernel
theorem d_Mo_copy_146 : decode b_Mo_copy 146 = .ok (.iload_n 3, 1) := by decide +kernel
theorem d_Mo_copy_147 : decode b_Mo_copy 147 = .ok (.iadd, 1) := by decide +kernel
theorem d_Mo_copy_148 : decode b_Mo_copy 148 = .ok (.iaload, 1) := by decide +kernel
theorem d_Mo_copy_149 : decode b_Mo_copy 149 = .ok (.iastore, 1) := by decide +kernel
theorem d_Mo_copy_150 : decode b_Mo_copy 150 = .ok (.iinc 3 1, 3) := by decide +kernel
theorem d_Mo_copy_153 : decode b_Mo_copy 153 = .ok (.goto (-31), 3) := by decide +kernel
theorem d_Mo_copy_156 : decode b_Mo_copy 156 = .ok (.iconst 0, 1) := by decide +kernel
theorem d_Mo_copy_157 : decode b_Mo_copy 157 = .ok (.istore_n 3, 1) := by decide +kernel
theorem d_Mo_copy_158 : decode b_Mo_copy 158 = .ok (.iload_n 3, 1) := by decide +kernel
theorem d_Mo_copy_159 : decode b_Mo_copy 159 = .ok (.sipush 300, 3) := by decide +kernel
theorem d_Mo_copy_162 : decode b_Mo_copy 162 = .ok (.if_icmp .ge 33, 3) := by decide +kernel
theorem d_Mo_copy_165 : decode b_Mo_copy 165 = .ok (.aload_n 0, 1) := by decide +kernel
theorem d_Mo_copy_166 : decode b_Mo_copy 166 = .ok (.getfield 28, 3) := by decide +kernel
theorem d_Mo_copy_169 : decode b_Mo_copy 169 = .ok (.sipush 300, 3) := by decide +kernel
theorem d_Mo_copy_172 : decode b_Mo_copy 172 = .ok (.iload_n 2, 1) := by decide +kernel
theorem d_Mo_copy_173 : decode b_Mo_copy 173 = .ok (.imul, 1) := by decide +kernel
theorem d_Mo_copy_174 : decode b_Mo_copy 174 = .ok (.iload_n 3, 1) := by decide +kernel
theorem d_Mo_copy_175 : decode b_Mo_copy 175 = .ok (.iadd, 1) := by decide +kernel
theorem d_Mo_copy_176 : decode b_Mo_copy 176 = .ok (.aload_n 0, 1) := by decide +kernel
theorem d_Mo_copy_177 : decode b_Mo_copy 177 = .ok (.getfield 28, 3) := by decide +kernel
theorem d_Mo_copy_180 : decode b_Mo_copy 180 = .ok (.sipush 300, 3) := by decide +kernel
theorem d_Mo_copy_183 : decode b_Mo_copy 183 = .ok (.iload_n 1, 1) := by decide +kernel
theorem d_Mo_copy_184 : decode b_Mo_copy 184 = .ok (.imul, 1) := by decide +kernel
theorem d_Mo_copy_185 : decode b_Mo_copy 185 = .ok (.iload_n 3, 1) := by decide +kernel
theorem d_Mo_copy_186 : decode b_Mo_copy 186 = .ok (.iadd, 1) := by decide +kernel
theorem d_Mo_copy_187 : decode b_Mo_copy 187 = .ok (.baload, 1) := by decide +kernel
theorem d_Mo_copy_188 : decode b_Mo_copy 188 = .ok (.bastore, 1) := by decide +kernel
theorem d_Mo_copy_189 : decode b_Mo_copy 189 = .ok (.iinc 3 1, 3) := by decide +kernel
theorem d_Mo_copy_192 : decode b_Mo_copy 192 = .ok (.goto (-34), 3) := by decide +kernel
theorem d_Mo_copy_195 : decode b_Mo_copy 195 = .ok (.iconst 0, 1) := by decide +kernel
theorem d_Mo_copy_196 : decode b_Mo_copy 196 = .ok (.istore_n 3, 1) := by decide +kernel
theorem d_Mo_copy_197 : decode b_Mo_copy 197 = .ok (.iload_n 3, 1) := by decide +kernel
theorem d_Mo_copy_198 : decode b_Mo_copy 198 = .ok (.ldc 67, 2) := by decide +kernel
theorem d_Mo_copy_200 : decode b_Mo_copy 200 = .ok (.if_icmp .ge 31, 3) := by decide +kernel
theorem d_Mo_copy_203 : decode b_Mo_copy 203 = .ok (.aload_n 0, 1) := by decide +kernel
theorem d_Mo_copy_204 : decode b_Mo_copy 204 = .ok (.getfield 24, 3) := by decide +kernel
theorem d_Mo_copy_207 : decode b_Mo_copy 207 = .ok (.ldc 67, 2) := by decide +kernel
theorem d_Mo_copy_209 : decode b_Mo_copy 209 = .ok (.iload_n 2, 1) := by decide +kernel
theorem d_Mo_copy_210 : decode b_Mo_copy 210 = .ok (.imul, 1) := by decide +kernel
theorem d_Mo_copy_211 : decode b_Mo_copy 211 = .ok (.iload_n 3, 1) := by decide +kernel
theorem d_Mo_copy_212 : decode b_Mo_copy 212 = .ok (.iadd, 1) := by decide +kernel
theorem d_Mo_copy_213 : decode b_Mo_copy 213 = .ok (.aload_n 0, 1) := by decide +kernel
theorem d_Mo_copy_214 : decode b_Mo_copy 214 = .ok (.getfield 24, 3) := by decide +kernel
theorem d_Mo_copy_217 : decode b_Mo_copy 217 = .ok (.ldc 67, 2) := by decide +kernel
theorem d_Mo_copy_219 : decode b_Mo_copy 219 = .ok (.iload_n 1, 1) := by decide +kernel
theorem d_Mo_copy_220 : decode b_Mo_copy 220 = .ok (.imul, 1) := by decide +kernel
theorem d_Mo_copy_221 : decode b_Mo_copy 221 = .ok (.iload_n 3, 1) := by decide +kernel
theorem d_Mo_copy_222 : decode b_Mo_copy 222 = .ok (.iadd, 1) := by decide +kernel
theorem d_Mo_copy_223 : decode b_Mo_copy 223 = .ok (.baload, 1) := by decide +kernel
theorem d_Mo_copy_224 : decode b_Mo_copy 224 = .ok (.bastore, 1) := by decide +kernel
theorem d_Mo_copy_225 : decode b_Mo_copy 225 = .ok (.iinc 3 1, 3) := by decide +kernel
theorem d_Mo_copy_228 : decode b_Mo_copy 228 = .ok (.goto (-31), 3) := by decide +kernel
theorem d_Mo_copy_231 : decode b_Mo_copy 231 = .ok (.return_, 1) := by decide +kernel
theorem d_Mo_keep_0 : decode b_Mo_keep 0 = .ok (.aload_n 0, 1) := by decide +kernel
theorem d_Mo_keep_1 : decode b_Mo_keep 1 = .ok (.getfield 38, 3) := by decide +kernel
theorem d_Mo_keep_4 : decode b_Mo_keep 4 = .ok (.ifCond .eq 6, 3) := by decide +kernel
theorem d_Mo_keep_7 : decode b_Mo_keep 7 = .ok (.bipush (-2), 2) := by decide +kernel
theorem d_Mo_keep_9 : decode b_Mo_keep 9 = .ok (.ireturn, 1) := by decide +kernel
theorem d_Mo_keep_10 : decode b_Mo_keep 10 = .ok (.iload_n 1, 1) := by decide +kernel
theorem d_Mo_keep_11 : decode b_Mo_keep 11 = .ok (.ifCond .lt 8, 3) := by decide +kernel
theorem d_Mo_keep_14 : decode b_Mo_keep 14 = .ok (.iload_n 1, 1) := by decide +kernel
theorem d_Mo_keep_15 : decode b_Mo_keep 15 = .ok (.iconst 2, 1) := by decide +kernel
theorem d_Mo_keep_16 : decode b_Mo_keep 16 = .ok (.if_icmp .le 5, 3) := by decide +kernel
theorem d_Mo_keep_19 : decode b_Mo_keep 19 = .ok (.iconst (-1), 1) := by decide +kernel
theorem d_Mo_keep_20 : decode b_Mo_keep 20 = .ok (.ireturn, 1) := by decide +kernel
theorem d_Mo_keep_21 : decode b_Mo_keep 21 = .ok (.lload_n 2, 1) := by decide +kernel
theorem d_Mo_keep_22 : decode b_Mo_keep 22 = .ok (.ldc2_w 68, 3) := by decide +kernel
theorem d_Mo_keep_25 : decode b_Mo_keep 25 = .ok (.land, 1) := by decide +kernel
theorem d_Mo_keep_26 : decode b_Mo_keep 26 = .ok (.l2i, 1) := by decide +kernel
theorem d_Mo_keep_27 : decode b_Mo_keep 27 = .ok (.istore 4, 2) := by decide +kernel
theorem d_Mo_keep_29 : decode b_Mo_keep 29 = .ok (.iload_n 1, 1) := by decide +kernel
theorem d_Mo_keep_30 : decode b_Mo_keep 30 = .ok (.ifCond .eq 20, 3) := by decide +kernel
theorem d_Mo_keep_33 : decode b_Mo_keep 33 = .ok (.iload_n 1, 1) := by decide +kernel
theorem d_Mo_keep_34 : decode b_Mo_keep 34 = .ok (.iconst 2, 1) := by decide +kernel
theorem d_Mo_keep_35 : decode b_Mo_keep 35 = .ok (.if_icmp .ne 31, 3) := by decide +kernel
theorem d_Mo_keep_38 : decode b_Mo_keep 38 = .ok (.iload 4, 2) := by decide +kernel
theorem d_Mo_keep_40 : decode b_Mo_keep 40 = .ok (.iconst 1, 1) := by decide +kernel
theorem d_Mo_keep_41 : decode b_Mo_keep 41 = .ok (.if_icmp .eq 9, 3) := by decide +kernel
theorem d_Mo_keep_44 : decode b_Mo_keep 44 = .ok (.iload 4, 2) := by decide +kernel
theorem d_Mo_keep_46 : decode b_Mo_keep 46 = .ok (.iconst 2, 1) := by decide +kernel
theorem d_Mo_keep_47 : decode b_Mo_keep 47 = .ok (.if_icmp .ne 19, 3) := by decide +kernel
theorem d_Mo_keep_50 : decode b_Mo_keep 50 = .ok (.aload_n 0, 1) := by decide +kernel
theorem d_Mo_keep_51 : decode b_Mo_keep 51 = .ok (.iconst 0, 1) := by decide +kernel
theorem d_Mo_keep_52 : decode b_Mo_keep 52 = .ok (.iconst 1, 1) := by decide +kernel
theorem d_Mo_keep_53 : decode b_Mo_keep 53 = .ok (.invokevirtual 70, 3) := by decide +kernel
theorem d_Mo_keep_56 : decode b_Mo_keep 56 = .ok (.aload_n 0, 1) := by decide +kernel
theorem d_Mo_keep_57 : decode b_Mo_keep 57 = .ok (.dup, 1) := by decide +kernel
theorem d_Mo_keep_58 : decode b_Mo_keep 58 = .ok (.getfield 34, 3) := by decide +kernel
theorem d_Mo_keep_61 : decode b_Mo_keep 61 = .ok (.iconst 1, 1) := by decide +kernel
theorem d_Mo_keep_62 : decode b_Mo_keep 62 = .ok (.iadd, 1) := by decide +kernel
theorem d_Mo_keep_63 : decode b_Mo_keep 63 = .ok (.putfield 34, 3) := by decide +kernel
theorem d_Mo_keep_66 : decode b_Mo_keep 66 = .ok (.aload_n 0, 1) := by decide +kernel
theorem d_Mo_keep_67 : decode b_Mo_keep 67 = .ok (.iload_n 1, 1) := by decide +kernel
theorem d_Mo_keep_68 : decode b_Mo_keep 68 = .ok (.ifCond .le 7, 3) := by decide +kernel
theorem d_Mo_keep_71 : decode b_Mo_keep 71 = .ok (.iconst 1, 1) := by decide +kernel
theorem d_Mo_keep_72 : decode b_Mo_keep 72 = .ok (.goto 4, 3) := by decide +kernel
theorem d_Mo_keep_75 : decode b_Mo_keep 75 = .ok (.iconst 0, 1) := by decide +kernel
theorem d_Mo_keep_76 : decode b_Mo_keep 76 = .ok (.putfield 38, 3) := by decide +kernel
theorem d_Mo_keep_79 : decode b_Mo_keep 79 = .ok (.aload_n 0, 1) := by decide +kernel
theorem d_Mo_keep_80 : decode b_Mo_keep 80 = .ok (.getfield 38, 3) := by decide +kernel
theorem d_Mo_keep_83 : decode b_Mo_keep 83 = .ok (.ifCond .eq 8, 3) := by decide +kernel
theorem d_Mo_keep_86 : decode b_Mo_keep 86 = .ok (.bipush (-2), 2) := by decide +kernel
theorem d_Mo_keep_88 : decode b_Mo_keep 88 = .ok (.goto 7, 3) := by decide +kernel
theorem d_Mo_keep_91 : decode b_Mo_keep 91 = .ok (.aload_n 0, 1) := by decide +kernel
theorem d_Mo_keep_92 : decode b_Mo_keep 92 = .ok (.invokevirtual 50, 3) := by decide +kernel
theorem d_Mo_keep_95 : decode b_Mo_keep 95 = .ok (.ireturn, 1) := by decide +kernel
theorem d_Mo_fail_0 : decode b_Mo_fail 0 = .ok (.aload_n 0, 1) := by decide +kernel
theorem d_Mo_fail_1 : decode b_Mo_fail 1 = .ok (.getfield 38, 3) := by decide +kernel
theorem d_Mo_fail_4 : decode b_Mo_fail 4 = .ok (.ifCond .eq 6, 3) := by decide +kernel
theorem d_Mo_fail_7 : decode b_Mo_fail 7 = .ok (.bipush (-2), 2) := by decide +kernel
theorem d_Mo_fail_9 : decode b_Mo_fail 9 = .ok (.ireturn, 1) := by decide +kernel
theorem d_Mo_fail_10 : decode b_Mo_fail 10 = .ok (.aload_n 0, 1) := by decide +kernel
theorem d_Mo_fail_11 : decode b_Mo_fail 11 = .ok (.iconst 1, 1) := by decide +kernel
theorem d_Mo_fail_12 : decode b_Mo_fail 12 = .ok (.putfield 38, 3) := by decide +kernel
theorem d_Mo_fail_15 : decode b_Mo_fail 15 = .ok (.iconst 0, 1) := by decide +kernel
theorem d_Mo_fail_16 : decode b_Mo_fail 16 = .ok (.ireturn, 1) := by decide +kernel
theorem d_Mo_mount_0 : decode b_Mo_mount 0 = .ok (.aload_n 0, 1) := by decide +kernel
theorem d_Mo_mount_1 : decode b_Mo_mount 1 = .ok (.getfield 38, 3) := by decide +kernel
theorem d_Mo_mount_4 : decode b_Mo_mount 4 = .ok (.ifCond .ne 5, 3) := by decide +kernel
theorem d_Mo_mount_7 : decode b_Mo_mount 7 = .ok (.iconst (-1), 1) := by decide +kernel
theorem d_Mo_mount_8 : decode b_Mo_mount 8 = .ok (.ireturn, 1) := by decide +kernel
theorem d_Mo_mount_9 : decode b_Mo_mount 9 = .ok (.aload_n 0, 1) := by decide +kernel
theorem d_Mo_mount_10 : decode b_Mo_mount 10 = .ok (.iconst 1, 1) := by decide +kernel
theorem d_Mo_mount_11 : decode b_Mo_mount 11 = .ok (.iconst 0, 1) := by decide +kernel
theorem d_Mo_mount_12 : decode b_Mo_mount 12 = .ok (.invokevirtual 70, 3) := by decide +kernel
theorem d_Mo_mount_15 : decode b_Mo_mount 15 = .ok (.aload_n 0, 1) := by decide +kernel
theorem d_Mo_mount_16 : decode b_Mo_mount 16 = .ok (.iconst 0, 1) := by decide +kernel
theorem d_Mo_mount_17 : decode b_Mo_mount 17 = .ok (.putfield 38, 3) := by decide +kernel
theorem d_Mo_mount_20 : decode b_Mo_mount 20 = .ok (.aload_n 0, 1) := by decide +kernel
theorem d_Mo_mount_21 : decode b_Mo_mount 21 = .ok (.invokevirtual 50, 3) := by decide +kernel
theorem d_Mo_mount_24 : decode b_Mo_mount 24 = .ok (.ireturn, 1) := by decide +kernel
theorem d_Mo_count_0 : decode b_Mo_count 0 = .ok (.aload_n 0, 1) := by decide +kernel
theorem d_Mo_count_1 : decode b_Mo_count 1 = .ok (.getfield 38, 3) := by decide +kernel
theorem d_Mo_count_4 : decode b_Mo_count 4 = .ok (.ifCond .eq 6, 3) := by decide +kernel
theorem d_Mo_count_7 : decode b_Mo_count 7 = .ok (.bipush (-2), 2) := by decide +kernel
theorem d_Mo_count_9 : decode b_Mo_count 9 = .ok (.ireturn, 1) := by decide +kernel
theorem d_Mo_count_10 : decode b_Mo_count 10 = .ok (.iload_n 1, 1) := by decide +kernel
theorem d_Mo_count_11 : decode b_Mo_count 11 = .ok (.iconst 1, 1) := by decide +kernel
theorem d_Mo_count_12 : decode b_Mo_count 12 = .ok (.if_icmp .ne 8, 3) := by decide +kernel
theorem d_Mo_count_15 : decode b_Mo_count 15 = .ok (.aload_n 0, 1) := by decide +kernel
theorem d_Mo_count_16 : decode b_Mo_count 16 = .ok (.getfield 34, 3) := by decide +kernel
theorem d_Mo_count_19 : decode b_Mo_count 19 = .ok (.ireturn, 1) := by decide +kernel
theorem d_Mo_count_20 : decode b_Mo_count 20 = .ok (.iload_n 1, 1) := by decide +kernel
theorem d_Mo_count_21 : decode b_Mo_count 21 = .ok (.ifCond .eq 5, 3) := by decide +kernel
theorem d_Mo_count_24 : decode b_Mo_count 24 = .ok (.iconst (-1), 1) := by decide +kernel
theorem d_Mo_count_25 : decode b_Mo_count 25 = .ok (.ireturn, 1) := by decide +kernel
theorem d_Mo_count_26 : decode b_Mo_count 26 = .ok (.iconst 0, 1) := by decide +kernel
theorem d_Mo_count_27 : decode b_Mo_count 27 = .ok (.istore_n 2, 1) := by decide +kernel
theorem d_Mo_count_28 : decode b_Mo_count 28 = .ok (.iconst 0, 1) := by decide +kernel
theorem d_Mo_count_29 : decode b_Mo_count 29 = .ok (.istore_n 3, 1) := by decide +kernel
theorem d_Mo_count_30 : decode b_Mo_count 30 = .ok (.iload_n 3, 1) := by decide +kernel
theorem d_Mo_count_31 : decode b_Mo_count 31 = .ok (.bipush 16, 2) := by decide +kernel
theorem d_Mo_count_33 : decode b_Mo_count 33 = .ok (.if_icmp .ge 26, 3) := by decide +kernel
theorem d_Mo_count_36 : decode b_Mo_count 36 = .ok (.iload_n 2, 1) := by decide +kernel
theorem d_Mo_count_37 : decode b_Mo_count 37 = .ok (.aload_n 0, 1) := by decide +kernel
theorem d_Mo_count_38 : decode b_Mo_count 38 = .ok (.getfield 7, 3) := by decide +kernel
theorem d_Mo_count_41 : decode b_Mo_count 41 = .ok (.iload_n 3, 1) := by decide +kernel
theorem d_Mo_count_42 : decode b_Mo_count 42 = .ok (.baload, 1) := by decide +kernel
theorem d_Mo_count_43 : decode b_Mo_count 43 = .ok (.ifCond .eq 7, 3) := by decide +kernel
theorem d_Mo_count_46 : decode b_Mo_count 46 = .ok (.iconst 1, 1) := by decide +kernel
theorem d_Mo_count_47 : decode b_Mo_count 47 = .ok (.goto 4, 3) := by decide +kernel
theorem d_Mo_count_50 : decode b_Mo_count 50 = .ok (.iconst 0, 1) := by decide +kernel
theorem d_Mo_count_51 : decode b_Mo_count 51 = .ok (.iadd, 1) := by decide +kernel
theorem d_Mo_count_52 : decode b_Mo_count 52 = .ok (.istore_n 2, 1) := by decide +kernel
theorem d_Mo_count_53 : decode b_Mo_count 53 = .ok (.iinc 3 1, 3) := by decide +kernel
theorem d_Mo_count_56 : decode b_Mo_count 56 = .ok (.goto (-26), 3) := by decide +kernel
theorem d_Mo_count_59 : decode b_Mo_count 59 = .ok (.iload_n 2, 1) := by decide +kernel
theorem d_Mo_count_60 : decode b_Mo_count 60 = .ok (.ireturn, 1) := by decide +kernel
theorem d_Mo_check_0 : decode b_Mo_check 0 = .ok (.aload_n 0, 1) := by decide +kernel
theorem d_Mo_check_1 : decode b_Mo_check 1 = .ok (.getfield 38, 3) := by decide +kernel
theorem d_Mo_check_4 : decode b_Mo_check 4 = .ok (.ifCond .eq 8, 3) := by decide +kernel
theorem d_Mo_check_7 : decode b_Mo_check 7 = .ok (.bipush (-2), 2) := by decide +kernel
theorem d_Mo_check_9 : decode b_Mo_check 9 = .ok (.goto 4, 3) := by decide +kernel
theorem d_Mo_check_12 : decode b_Mo_check 12 = .ok (.iconst 0, 1) := by decide +kernel
theorem d_Mo_check_13 : decode b_Mo_check 13 = .ok (.ireturn, 1) := by decide +kernel
