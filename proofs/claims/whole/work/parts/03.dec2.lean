theorem d_Tp_init_0 : decode b_Tp_init 0 = .ok (.aload_n 0, 1) := by decide +kernel
theorem d_Tp_init_1 : decode b_Tp_init 1 = .ok (.invokespecial 3, 3) := by decide +kernel
theorem d_Tp_init_4 : decode b_Tp_init 4 = .ok (.aload_n 0, 1) := by decide +kernel
theorem d_Tp_init_5 : decode b_Tp_init 5 = .ok (.new 9, 3) := by decide +kernel
theorem d_Tp_init_8 : decode b_Tp_init 8 = .ok (.dup, 1) := by decide +kernel
theorem d_Tp_init_9 : decode b_Tp_init 9 = .ok (.invokespecial 11, 3) := by decide +kernel
theorem d_Tp_init_12 : decode b_Tp_init 12 = .ok (.putfield 12, 3) := by decide +kernel
theorem d_Tp_init_15 : decode b_Tp_init 15 = .ok (.aload_n 0, 1) := by decide +kernel
theorem d_Tp_init_16 : decode b_Tp_init 16 = .ok (.new 9, 3) := by decide +kernel
theorem d_Tp_init_19 : decode b_Tp_init 19 = .ok (.dup, 1) := by decide +kernel
theorem d_Tp_init_20 : decode b_Tp_init 20 = .ok (.invokespecial 11, 3) := by decide +kernel
theorem d_Tp_init_23 : decode b_Tp_init 23 = .ok (.putfield 16, 3) := by decide +kernel
theorem d_Tp_init_26 : decode b_Tp_init 26 = .ok (.aload_n 0, 1) := by decide +kernel
theorem d_Tp_init_27 : decode b_Tp_init 27 = .ok (.new 19, 3) := by decide +kernel
theorem d_Tp_init_30 : decode b_Tp_init 30 = .ok (.dup, 1) := by decide +kernel
theorem d_Tp_init_31 : decode b_Tp_init 31 = .ok (.aload_n 0, 1) := by decide +kernel
theorem d_Tp_init_32 : decode b_Tp_init 32 = .ok (.getfield 12, 3) := by decide +kernel
theorem d_Tp_init_35 : decode b_Tp_init 35 = .ok (.invokespecial 21, 3) := by decide +kernel
theorem d_Tp_init_38 : decode b_Tp_init 38 = .ok (.putfield 24, 3) := by decide +kernel
theorem d_Tp_init_41 : decode b_Tp_init 41 = .ok (.aload_n 0, 1) := by decide +kernel
theorem d_Tp_init_42 : decode b_Tp_init 42 = .ok (.new 28, 3) := by decide +kernel
theorem d_Tp_init_45 : decode b_Tp_init 45 = .ok (.dup, 1) := by decide +kernel
theorem d_Tp_init_46 : decode b_Tp_init 46 = .ok (.aload_n 0, 1) := by decide +kernel
theorem d_Tp_init_47 : decode b_Tp_init 47 = .ok (.getfield 16, 3) := by decide +kernel
theorem d_Tp_init_50 : decode b_Tp_init 50 = .ok (.iconst 0, 1) := by decide +kernel
theorem d_Tp_init_51 : decode b_Tp_init 51 = .ok (.invokespecial 30, 3) := by decide +kernel
theorem d_Tp_init_54 : decode b_Tp_init 54 = .ok (.putfield 33, 3) := by decide +kernel
theorem d_Tp_init_57 : decode b_Tp_init 57 = .ok (.aload_n 0, 1) := by decide +kernel
theorem d_Tp_init_58 : decode b_Tp_init 58 = .ok (.new 28, 3) := by decide +kernel
theorem d_Tp_init_61 : decode b_Tp_init 61 = .ok (.dup, 1) := by decide +kernel
theorem d_Tp_init_62 : decode b_Tp_init 62 = .ok (.aload_n 0, 1) := by decide +kernel
theorem d_Tp_init_63 : decode b_Tp_init 63 = .ok (.getfield 16, 3) := by decide +kernel
theorem d_Tp_init_66 : decode b_Tp_init 66 = .ok (.iconst 1, 1) := by decide +kernel
theorem d_Tp_init_67 : decode b_Tp_init 67 = .ok (.invokespecial 30, 3) := by decide +kernel
theorem d_Tp_init_70 : decode b_Tp_init 70 = .ok (.putfield 37, 3) := by decide +kernel
theorem d_Tp_init_73 : decode b_Tp_init 73 = .ok (.aload_n 0, 1) := by decide +kernel
theorem d_Tp_init_74 : decode b_Tp_init 74 = .ok (.new 40, 3) := by decide +kernel
theorem d_Tp_init_77 : decode b_Tp_init 77 = .ok (.dup, 1) := by decide +kernel
theorem d_Tp_init_78 : decode b_Tp_init 78 = .ok (.invokespecial 42, 3) := by decide +kernel
theorem d_Tp_init_81 : decode b_Tp_init 81 = .ok (.putfield 43, 3) := by decide +kernel
theorem d_Tp_init_84 : decode b_Tp_init 84 = .ok (.aload_n 0, 1) := by decide +kernel
theorem d_Tp_init_85 : decode b_Tp_init 85 = .ok (.invokevirtual 47, 3) := by decide +kernel
theorem d_Tp_init_88 : decode b_Tp_init 88 = .ok (.return_, 1) := by decide +kernel
theorem d_Tp_lay_0 : decode b_Tp_lay 0 = .ok (.aload_n 0, 1) := by decide +kernel
theorem d_Tp_lay_1 : decode b_Tp_lay 1 = .ok (.invokevirtual 47, 3) := by decide +kernel
theorem d_Tp_lay_4 : decode b_Tp_lay 4 = .ok (.iconst 0, 1) := by decide +kernel
theorem d_Tp_lay_5 : decode b_Tp_lay 5 = .ok (.ireturn, 1) := by decide +kernel
theorem d_Tp_make_0 : decode b_Tp_make 0 = .ok (.aload_n 0, 1) := by decide +kernel
theorem d_Tp_make_1 : decode b_Tp_make 1 = .ok (.getfield 50, 3) := by decide +kernel
theorem d_Tp_make_4 : decode b_Tp_make 4 = .ok (.ifCond .ne 6, 3) := by decide +kernel
theorem d_Tp_make_7 : decode b_Tp_make 7 = .ok (.bipush (-2), 2) := by decide +kernel
theorem d_Tp_make_9 : decode b_Tp_make 9 = .ok (.ireturn, 1) := by decide +kernel
theorem d_Tp_make_10 : decode b_Tp_make 10 = .ok (.iload_n 1, 1) := by decide +kernel
theorem d_Tp_make_11 : decode b_Tp_make 11 = .ok (.invokestatic 54, 3) := by decide +kernel
theorem d_Tp_make_14 : decode b_Tp_make 14 = .ok (.ifCond .eq 11, 3) := by decide +kernel
theorem d_Tp_make_17 : decode b_Tp_make 17 = .ok (.aload_n 0, 1) := by decide +kernel
theorem d_Tp_make_18 : decode b_Tp_make 18 = .ok (.iload_n 1, 1) := by decide +kernel
theorem d_Tp_make_19 : decode b_Tp_make 19 = .ok (.invokevirtual 58, 3) := by decide +kernel
theorem d_Tp_make_22 : decode b_Tp_make 22 = .ok (.ifCond .eq 5, 3) := by decide +kernel
theorem d_Tp_make_25 : decode b_Tp_make 25 = .ok (.iconst (-1), 1) := by decide +kernel
theorem d_Tp_make_26 : decode b_Tp_make 26 = .ok (.ireturn, 1) := by decide +kernel
theorem d_Tp_make_27 : decode b_Tp_make 27 = .ok (.aload_n 0, 1) := by decide +kernel
theorem d_Tp_make_28 : decode b_Tp_make 28 = .ok (.getfield 24, 3) := by decide +kernel
theorem d_Tp_make_31 : decode b_Tp_make 31 = .ok (.iload_n 1, 1) := by decide +kernel
theorem d_Tp_make_32 : decode b_Tp_make 32 = .ok (.invokevirtual 61, 3) := by decide +kernel
theorem d_Tp_make_35 : decode b_Tp_make 35 = .ok (.iconst 0, 1) := by decide +kernel
theorem d_Tp_make_36 : decode b_Tp_make 36 = .ok (.ireturn, 1) := by decide +kernel
theorem d_Tp_snap_0 : decode b_Tp_snap 0 = .ok (.aload_n 0, 1) := by decide +kernel
theorem d_Tp_snap_1 : decode b_Tp_snap 1 = .ok (.getfield 50, 3) := by decide +kernel
theorem d_Tp_snap_4 : decode b_Tp_snap 4 = .ok (.ifCond .ne 6, 3) := by decide +kernel
theorem d_Tp_snap_7 : decode b_Tp_snap 7 = .ok (.bipush (-2), 2) := by decide +kernel
theorem d_Tp_snap_9 : decode b_Tp_snap 9 = .ok (.ireturn, 1) := by decide +kernel
theorem d_Tp_snap_10 : decode b_Tp_snap 10 = .ok (.iload_n 1, 1) := by decide +kernel
theorem d_Tp_snap_11 : decode b_Tp_snap 11 = .ok (.invokestatic 54, 3) := by decide +kernel
theorem d_Tp_snap_14 : decode b_Tp_snap 14 = .ok (.ifCond .eq 19, 3) := by decide +kernel
theorem d_Tp_snap_17 : decode b_Tp_snap 17 = .ok (.aload_n 0, 1) := by decide +kernel
theorem d_Tp_snap_18 : decode b_Tp_snap 18 = .ok (.iload_n 1, 1) := by decide +kernel
theorem d_Tp_snap_19 : decode b_Tp_snap 19 = .ok (.invokevirtual 58, 3) := by decide +kernel
theorem d_Tp_snap_22 : decode b_Tp_snap 22 = .ok (.ifCond .ne 11, 3) := by decide +kernel
theorem d_Tp_snap_25 : decode b_Tp_snap 25 = .ok (.aload_n 0, 1) := by decide +kernel
theorem d_Tp_snap_26 : decode b_Tp_snap 26 = .ok (.iload_n 2, 1) := by decide +kernel
theorem d_Tp_snap_27 : decode b_Tp_snap 27 = .ok (.invokevirtual 58, 3) := by decide +kernel
theorem d_Tp_snap_30 : decode b_Tp_snap 30 = .ok (.ifCond .ne 5, 3) := by decide +kernel
theorem d_Tp_snap_33 : decode b_Tp_snap 33 = .ok (.iconst (-1), 1) := by decide +kernel
theorem d_Tp_snap_34 : decode b_Tp_snap 34 = .ok (.ireturn, 1) := by decide +kernel
theorem d_Tp_snap_35 : decode b_Tp_snap 35 = .ok (.aload_n 0, 1) := by decide +kernel
theorem d_Tp_snap_36 : decode b_Tp_snap 36 = .ok (.getfield 24, 3) := by decide +kernel
theorem d_Tp_snap_39 : decode b_Tp_snap 39 = .ok (.iload_n 2, 1) := by decide +kernel
theorem d_Tp_snap_40 : decode b_Tp_snap 40 = .ok (.invokevirtual 65, 3) := by decide +kernel
theorem d_Tp_snap_43 : decode b_Tp_snap 43 = .ok (.istore_n 3, 1) := by decide +kernel
theorem d_Tp_snap_44 : decode b_Tp_snap 44 = .ok (.aload_n 0, 1) := by decide +kernel
theorem d_Tp_snap_45 : decode b_Tp_snap 45 = .ok (.getfield 24, 3) := by decide +kernel
theorem d_Tp_snap_48 : decode b_Tp_snap 48 = .ok (.invokevirtual 69, 3) := by decide +kernel
theorem d_Tp_snap_51 : decode b_Tp_snap 51 = .ok (.iload_n 3, 1) := by decide +kernel
theorem d_Tp_snap_52 : decode b_Tp_snap 52 = .ok (.iadd, 1) := by decide +kernel
theorem d_Tp_snap_53 : decode b_Tp_snap 53 = .ok (.sipush 300, 3) := by decide +kernel
theorem d_Tp_snap_56 : decode b_Tp_snap 56 = .ok (.if_icmp .le 6, 3) := by decide +kernel
theorem d_Tp_snap_59 : decode b_Tp_snap 59 = .ok (.bipush (-3), 2) := by decide +kernel
theorem d_Tp_snap_61 : decode b_Tp_snap 61 = .ok (.ireturn, 1) := by decide +kernel
theorem d_Tp_snap_62 : decode b_Tp_snap 62 = .ok (.aload_n 0, 1) := by decide +kernel
theorem d_Tp_snap_63 : decode b_Tp_snap 63 = .ok (.getfield 24, 3) := by decide +kernel
theorem d_Tp_snap_66 : decode b_Tp_snap 66 = .ok (.iload_n 1, 1) := by decide +kernel
theorem d_Tp_snap_67 : decode b_Tp_snap 67 = .ok (.iload_n 2, 1) := by decide +kernel
theorem d_Tp_snap_68 : decode b_Tp_snap 68 = .ok (.invokevirtual 73, 3) := by decide +kernel
theorem d_Tp_snap_71 : decode b_Tp_snap 71 = .ok (.iload_n 3, 1) := by decide +kernel
theorem d_Tp_snap_72 : decode b_Tp_snap 72 = .ok (.ireturn, 1) := by decide +kernel
theorem d_Tp_remove_0 : decode b_Tp_remove 0 = .ok (.aload_n 0, 1) := by decide +kernel
theorem d_Tp_remove_1 : decode b_Tp_remove 1 = .ok (.getfield 50, 3) := by decide +kernel
theorem d_Tp_remove_4 : decode b_Tp_remove 4 = .ok (.ifCond .ne 6, 3) := by decide +kernel
theorem d_Tp_remove_7 : decode b_Tp_remove 7 = .ok (.bipush (-2), 2) := by decide +kernel
theorem d_Tp_remove_9 : decode b_Tp_remove 9 = .ok (.ireturn, 1) := by decide +kernel
theorem d_Tp_remove_10 : decode b_Tp_remove 10 = .ok (.aload_n 0, 1) := by decide +kernel
theorem d_Tp_remove_11 : decode b_Tp_remove 11 = .ok (.iload_n 1, 1) := by decide +kernel
theorem d_Tp_remove_12 : decode b_Tp_remove 12 = .ok (.invokevirtual 58, 3) := by decide +kernel
theorem d_Tp_remove_15 : decode b_Tp_remove 15 = .ok (.ifCond .ne 5, 3) := by decide +kernel
theorem d_Tp_remove_18 : decode b_Tp_remove 18 = .ok (.iconst (-1), 1) := by decide +kernel
theorem d_Tp_remove_19 : decode b_Tp_remove 19 = .ok (.ireturn, 1) := by decide +kernel
theorem d_Tp_remove_20 : decode b_Tp_remove 20 = .ok (.aload_n 0, 1) := by decide +kernel
theorem d_Tp_remove_21 : decode b_Tp_remove 21 = .ok (.getfield 24, 3) := by decide +kernel
theorem d_Tp_remove_24 : decode b_Tp_remove 24 = .ok (.iload_n 1, 1) := by decide +kernel
theorem d_Tp_remove_25 : decode b_Tp_remove 25 = .ok (.invokevirtual 65, 3) := by decide +kernel
theorem d_Tp_remove_28 : decode b_Tp_remove 28 = .ok (.istore_n 2, 1) := by decide +kernel
theorem d_Tp_remove_29 : decode b_Tp_remove 29 = .ok (.aload_n 0, 1) := by decide +kernel
theorem d_Tp_remove_30 : decode b_Tp_remove 30 = .ok (.getfield 24, 3) := by decide +kernel
theorem d_Tp_remove_33 : decode b_Tp_remove 33 = .ok (.iload_n 1, 1) := by decide +kernel
theorem d_Tp_remove_34 : decode b_Tp_remove 34 = .ok (.invokevirtual 77, 3) := by decide +kernel
theorem d_Tp_remove_37 : decode b_Tp_remove 37 = .ok (.iload_n 2, 1) := by decide +kernel
theorem d_Tp_remove_38 : decode b_Tp_remove 38 = .ok (.ireturn, 1) := by decide +kernel
theorem d_Tp_write_0 : decode b_Tp_write 0 = .ok (.aload_n 0, 1) := by decide +kernel
theorem d_Tp_write_1 : decode b_Tp_write 1 = .ok (.getfield 50, 3) := by decide +kernel
theorem d_Tp_write_4 : decode b_Tp_write 4 = .ok (.ifCond .ne 6, 3) := by decide +kernel
theorem d_Tp_write_7 : decode b_Tp_write 7 = .ok (.bipush (-2), 2) := by decide +kernel
theorem d_Tp_write_9 : decode b_Tp_write 9 = .ok (.ireturn, 1) := by decide +kernel
theorem d_Tp_write_10 : decode b_Tp_write 10 = .ok (.aload_n 0, 1) := by decide +kernel
theorem d_Tp_write_11 : decode b_Tp_write 11 = .ok (.iload_n 1, 1) := by decide +kernel
theorem d_Tp_write_12 : decode b_Tp_write 12 = .ok (.invokevirtual 58, 3) := by decide +kernel
theorem d_Tp_write_15 : decode b_Tp_write 15 = .ok (.ifCond .eq 27, 3) := by decide +kernel
theorem d_Tp_write_18 : decode b_Tp_write 18 = .ok (.iload_n 2, 1) := by decide +kernel
theorem d_Tp_write_19 : decode b_Tp_write 19 = .ok (.invokestatic 80, 3) := by decide +kernel
theorem d_Tp_write_22 : decode b_Tp_write 22 = .ok (.ifCond .eq 20, 3) := by decide +kernel
theorem d_Tp_write_25 : decode b_Tp_write 25 = .ok (.iload_n 3, 1) := by decide +kernel
theorem d_Tp_write_26 : decode b_Tp_write 26 = .ok (.iload 4, 2) := by decide +kernel
theorem d_Tp_write_28 : decode b_Tp_write 28 = .ok (.invokestatic 83, 3) := by decide +kernel
theorem d_Tp_write_31 : decode b_Tp_write 31 = .ok (.ifCond .eq 11, 3) := by decide +kernel
theorem d_Tp_write_34 : decode b_Tp_write 34 = .ok (.iload 5, 2) := by decide +kernel
theorem d_Tp_write_36 : decode b_Tp_write 36 = .ok (.invokestatic 87, 3) := by decide +kernel
theorem d_Tp_write_39 : decode b_Tp_write 39 = .ok (.ifCond .ne 5, 3) := by decide +kernel
theorem d_Tp_write_42 : decode b_Tp_write 42 = .ok (.iconst (-1), 1) := by decide +kernel
theorem d_Tp_write_43 : decode b_Tp_write 43 = .ok (.ireturn, 1) := by decide +kernel
theorem d_Tp_write_44 : decode b_Tp_write 44 = .ok (.aload_n 0, 1) := by decide +kernel
theorem d_Tp_write_45 : decode b_Tp_write 45 = .ok (.getfield 24, 3) := by decide +kernel
theorem d_Tp_write_48 : decode b_Tp_write 48 = .ok (.iload_n 1, 1) := by decide +kernel
theorem d_Tp_write_49 : decode b_Tp_write 49 = .ok (.iload_n 2, 1) := by decide +kernel
theorem d_Tp_write_50 : decode b_Tp_write 50 = .ok (.invokevirtual 90, 3) := by decide +kernel
theorem d_Tp_write_53 : decode b_Tp_write 53 = .ok (.ifCond .ne 19, 3) := by decide +kernel
theorem d_Tp_write_56 : decode b_Tp_write 56 = .ok (.aload_n 0, 1) := by decide +kernel
theorem d_Tp_write_57 : decode b_Tp_write 57 = .ok (.getfield 24, 3) := by decide +kernel
theorem d_Tp_write_60 : decode b_Tp_write 60 = .ok (.invokevirtual 69, 3) := by decide +kernel
theorem d_Tp_write_63 : decode b_Tp_write 63 = .ok (.sipush 300, 3) := by decide +kernel
theorem d_Tp_write_66 : decode b_Tp_write 66 = .ok (.if_icmp .lt 6, 3) := by decide +kernel
theorem d_Tp_write_69 : decode b_Tp_write 69 = .ok (.bipush (-3), 2) := by decide +kernel
theorem d_Tp_write_71 : decode b_Tp_write 71 = .ok (.ireturn, 1) := by decide +kernel
theorem d_Tp_write_72 : decode b_Tp_write 72 = .ok (.aload_n 0, 1) := by decide +kernel
theorem d_Tp_write_73 : decode b_Tp_write 73 = .ok (.getfield 24, 3) := by decide +kernel
theorem d_Tp_write_76 : decode b_Tp_write 76 = .ok (.iload_n 1, 1) := by decide +kernel
theorem d_Tp_write_77 : decode b_Tp_write 77 = .ok (.iload_n 2, 1) := by decide +kernel
theorem d_Tp_write_78 : decode b_Tp_write 78 = .ok (.invokevirtual 94, 3) := by decide +kernel
theorem d_Tp_write_81 : decode b_Tp_write 81 = .ok (.istore 6, 2) := by decide +kernel
theorem d_Tp_write_83 : decode b_Tp_write 83 = .ok (.iload_n 3, 1) := by decide +kernel
theorem d_Tp_write_84 : decode b_Tp_write 84 = .ok (.istore 7, 2) := by decide +kernel
theorem d_Tp_write_86 : decode b_Tp_write 86 = .ok (.iload 7, 2) := by decide +kernel
theorem d_Tp_write_88 : decode b_Tp_write 88 = .ok (.iload_n 3, 1) := by decide +kernel
theorem d_Tp_write_89 : decode b_Tp_write 89 = .ok (.iload 4, 2) := by decide +kernel
theorem d_Tp_write_91 : decode b_Tp_write 91 = .ok (.iadd, 1) := by decide +kernel
theorem d_Tp_write_92 : decode b_Tp_write 92 = .ok (.if_icmp .ge 22, 3) := by decide +kernel
theorem d_Tp_write_95 : decode b_Tp_write 95 = .ok (.aload_n 0, 1) := by decide +kernel
theorem d_Tp_write_96 : decode b_Tp_write 96 = .ok (.getfield 12, 3) := by decide +kernel
theorem d_Tp_write_99 : decode b_Tp_write 99 = .ok (.iload 6, 2) := by decide +kernel
theorem d_Tp_write_101 : decode b_Tp_write 101 = .ok (.iload 7, 2) := by decide +kernel
theorem d_Tp_write_103 : decode b_Tp_write 103 = .ok (.iload 5, 2) := by decide +kernel
theorem d_Tp_write_105 : decode b_Tp_write 105 = .ok (.invokevirtual 97, 3) := by decide +kernel
theorem d_Tp_write_108 : decode b_Tp_write 108 = .ok (.iinc 7 1, 3) := by decide +kernel
theorem d_Tp_write_111 : decode b_Tp_write 111 = .ok (.goto (-25), 3) := by decide +kernel
theorem d_Tp_write_114 : decode b_Tp_write 114 = .ok (.aload_n 0, 1) := by decide +kernel
theorem d_Tp_write_115 : decode b_Tp_write 115 = .ok (.getfield 24, 3) := by decide +kernel
theorem d_Tp_write_118 : decode b_Tp_write 118 = .ok (.iload_n 1, 1) := by decide +kernel
theorem d_Tp_write_119 : decode b_Tp_write 119 = .ok (.invokevirtual 65, 3) := by decide +kernel
theorem d_Tp_write_122 : decode b_Tp_write 122 = .ok (.ireturn, 1) := by decide +kernel
theorem d_Tp_read_0 : decode b_Tp_read 0 = .ok (.aload_n 0, 1) := by decide +kernel
theorem d_Tp_read_1 : decode b_Tp_read 1 = .ok (.getfield 50, 3) := by decide +kernel
theorem d_Tp_read_4 : decode b_Tp_read 4 = .ok (.ifCond .ne 6, 3) := by decide +kernel
theorem d_Tp_read_7 : decode b_Tp_read 7 = .ok (.bipush (-2), 2) := by decide +kernel
theorem d_Tp_read_9 : decode b_Tp_read 9 = .ok (.ireturn, 1) := by decide +kernel
theorem d_Tp_read_10 : decode b_Tp_read 10 = .ok (.aload_n 0, 1) := by decide +kernel
theorem d_Tp_read_11 : decode b_Tp_read 11 = .ok (.iload_n 1, 1) := by decide +kernel
theorem d_Tp_read_12 : decode b_Tp_read 12 = .ok (.invokevirtual 58, 3) := by decide +kernel
theorem d_Tp_read_15 : decode b_Tp_read 15 = .ok (.ifCond .eq 18, 3) := by decide +kernel
theorem d_Tp_read_18 : decode b_Tp_read 18 = .ok (.iload_n 2, 1) := by decide +kernel
theorem d_Tp_read_19 : decode b_Tp_read 19 = .ok (.invokestatic 80, 3) := by decide +kernel
theorem d_Tp_read_22 : decode b_Tp_read 22 = .ok (.ifCond .eq 11, 3) := by decide +kernel
theorem d_Tp_read_25 : decode b_Tp_read 25 = .ok (.iload_n 3, 1) := by decide +kernel
theorem d_Tp_read_26 : decode b_Tp_read 26 = .ok (.iconst 1, 1) := by decide +kernel
theorem d_Tp_read_27 : decode b_Tp_read 27 = .ok (.invokestatic 83, 3) := by decide +kernel
theorem d_Tp_read_30 : decode b_Tp_read 30 = .ok (.ifCond .ne 5, 3) := by decide +kernel
theorem d_Tp_read_33 : decode b_Tp_read 33 = .ok (.iconst (-1), 1) := by decide +kernel
theorem d_Tp_read_34 : decode b_Tp_read 34 = .ok (.ireturn, 1) := by decide +kernel
theorem d_Tp_read_35 : decode b_Tp_read 35 = .ok (.aload_n 0, 1) := by decide +kernel
theorem d_Tp_read_36 : decode b_Tp_read 36 = .ok (.getfield 24, 3) := by decide +kernel
theorem d_Tp_read_39 : decode b_Tp_read 39 = .ok (.iload_n 1, 1) := by decide +kernel
theorem d_Tp_read_40 : decode b_Tp_read 40 = .ok (.iload_n 2, 1) := by decide +kernel
theorem d_Tp_read_41 : decode b_Tp_read 41 = .ok (.invokevirtual 90, 3) := by decide +kernel
theorem d_Tp_read_44 : decode b_Tp_read 44 = .ok (.istore 4, 2) := by decide +kernel
theorem d_Tp_read_46 : decode b_Tp_read 46 = .ok (.iload 4, 2) := by decide +kernel
theorem d_Tp_read_48 : decode b_Tp_read 48 = .ok (.ifCond .ne 7, 3) := by decide +kernel
theorem d_Tp_read_51 : decode b_Tp_read 51 = .ok (.iconst 0, 1) := by decide +kernel
theorem d_Tp_read_52 : decode b_Tp_read 52 = .ok (.goto 13, 3) := by decide +kernel
theorem d_Tp_read_55 : decode b_Tp_read 55 = .ok (.aload_n 0, 1) := by decide +kernel
theorem d_Tp_read_56 : decode b_Tp_read 56 = .ok (.getfield 12, 3) := by decide +kernel
theorem d_Tp_read_59 : decode b_Tp_read 59 = .ok (.iload 4, 2) := by decide +kernel
theorem d_Tp_read_61 : decode b_Tp_read 61 = .ok (.iload_n 3, 1) := by decide +kernel
theorem d_Tp_read_62 : decode b_Tp_read 62 = .ok (.invokevirtual 101, 3) := by decide +kernel
theorem d_Tp_read_65 : decode b_Tp_read 65 = .ok (.ireturn, 1) := by decide +kernel
theorem d_Tp_trim_0 : decode b_Tp_trim 0 = .ok (.aload_n 0, 1) := by decide +kernel
theorem d_Tp_trim_1 : decode b_Tp_trim 1 = .ok (.getfield 50, 3) := by decide +kernel
theorem d_Tp_trim_4 : decode b_Tp_trim 4 = .ok (.ifCond .ne 6, 3) := by decide +kernel
theorem d_Tp_trim_7 : decode b_Tp_trim 7 = .ok (.bipush (-2), 2) := by decide +kernel
theorem d_Tp_trim_9 : decode b_Tp_trim 9 = .ok (.ireturn, 1) := by decide +kernel
theorem d_Tp_trim_10 : decode b_Tp_trim 10 = .ok (.aload_n 0, 1) := by decide +kernel
theorem d_Tp_trim_11 : decode b_Tp_trim 11 = .ok (.iload_n 1, 1) := by decide +kernel
theorem d_Tp_trim_12 : decode b_Tp_trim 12 = .ok (.invokevirtual 58, 3) := by decide +kernel
theorem d_Tp_trim_15 : decode b_Tp_trim 15 = .ok (.ifCond .eq 22, 3) := by decide +kernel
theorem d_Tp_trim_18 : decode b_Tp_trim 18 = .ok (.iload_n 2, 1) := by decide +kernel
theorem d_Tp_trim_19 : decode b_Tp_trim 19 = .ok (.invokestatic 80, 3) := by decide +kernel
theorem d_Tp_trim_22 : decode b_Tp_trim 22 = .ok (.ifCond .eq 15, 3) := by decide +kernel
theorem d_Tp_trim_25 : decode b_Tp_trim 25 = .ok (.iload_n 3, 1) := by decide +kernel
theorem d_Tp_trim_26 : decode b_Tp_trim 26 = .ok (.invokestatic 80, 3) := by decide +kernel
theorem d_Tp_trim_29 : decode b_Tp_trim 29 = .ok (.ifCond .eq 8, 3) := by decide +kernel
theorem d_Tp_trim_32 : decode b_Tp_trim 32 = .ok (.iload_n 3, 1) := by decide +kernel
theorem d_Tp_trim_33 : decode b_Tp_trim 33 = .ok (.iload_n 2, 1) := by decide +kernel
theorem d_Tp_trim_34 : decode b_Tp_trim 34 = .ok (.if_icmp .ge 5, 3) := by decide +kernel
theorem d_Tp_trim_37 : decode b_Tp_trim 37 = .ok (.iconst (-1), 1) := by decide +kernel
theorem d_Tp_trim_38 : decode b_Tp_trim 38 = .ok (.ireturn, 1) := by decide +kernel
theorem d_Tp_trim_39 : decode b_Tp_trim 39 = .ok (.iconst 0, 1) := by decide +kernel
theorem d_Tp_trim_40 : decode b_Tp_trim 40 = .ok (.istore 4, 2) := by decide +kernel
theorem d_Tp_trim_42 : decode b_Tp_trim 42 = .ok (.iload_n 2, 1) := by decide +kernel
theorem d_Tp_trim_43 : decode b_Tp_trim 43 = .ok (.istore 5, 2) := by decide +kernel
theorem d_Tp_trim_45 : decode b_Tp_trim 45 = .ok (.iload 5, 2) := by decide +kernel
theorem d_Tp_trim_47 : decode b_Tp_trim 47 = .ok (.iload_n 3, 1) := by decide +kernel
theorem d_Tp_trim_48 : decode b_Tp_trim 48 = .ok (.if_icmp .gt 35, 3) := by decide +kernel
theorem d_Tp_trim_51 : decode b_Tp_trim 51 = .ok (.aload_n 0, 1) := by decide +kernel
theorem d_Tp_trim_52 : decode b_Tp_trim 52 = .ok (.getfield 24, 3) := by decide +kernel
theorem d_Tp_trim_55 : decode b_Tp_trim 55 = .ok (.iload_n 1, 1) := by decide +kernel
theorem d_Tp_trim_56 : decode b_Tp_trim 56 = .ok (.iload 5, 2) := by decide +kernel
theorem d_Tp_trim_58 : decode b_Tp_trim 58 = .ok (.invokevirtual 90, 3) := by decide +kernel
theorem d_Tp_trim_61 : decode b_Tp_trim 61 = .ok (.ifCond .eq 16, 3) := by decide +kernel
theorem d_Tp_trim_64 : decode b_Tp_trim 64 = .ok (.aload_n 0, 1) := by decide +kernel
theorem d_Tp_trim_65 : decode b_Tp_trim 65 = .ok (.getfield 24, 3) := by decide +kernel
theorem d_Tp_trim_68 : decode b_Tp_trim 68 = .ok (.iload_n 1, 1) := by decide +kernel
theorem d_Tp_trim_69 : decode b_Tp_trim 69 = .ok (.iload 5, 2) := by decide +kernel
theorem d_Tp_trim_71 : decode b_Tp_trim 71 = .ok (.invokevirtual 104, 3) := by decide +kernel
theorem d_Tp_trim_74 : decode b_Tp_trim 74 = .ok (.iinc 4 1, 3) := by decide +kernel
theorem d_Tp_trim_77 : decode b_Tp_trim 77 = .ok (.iinc 5 1, 3) := by decide +kernel
theorem d_Tp_trim_80 : decode b_Tp_trim 80 = .ok (.goto (-35), 3) := by decide +kernel
theorem d_Tp_trim_83 : decode b_Tp_trim 83 = .ok (.iload 4, 2) := by decide +kernel
theorem d_Tp_trim_85 : decode b_Tp_trim 85 = .ok (.ireturn, 1) := by decide +kernel
theorem d_Tp_pieces_0 : decode b_Tp_pieces 0 = .ok (.aload_n 0, 1) := by decide +kernel
theorem d_Tp_pieces_1 : decode b_Tp_pieces 1 = .ok (.getfield 50, 3) := by decide +kernel
theorem d_Tp_pieces_4 : decode b_Tp_pieces 4 = .ok (.ifCond .ne 6, 3) := by decide +kernel
theorem d_Tp_pieces_7 : decode b_Tp_pieces 7 = .ok (.bipush (-2), 2) := by decide +kernel
theorem d_Tp_pieces_9 : decode b_Tp_pieces 9 = .ok (.ireturn, 1) := by decide +kernel
theorem d_Tp_pieces_10 : decode b_Tp_pieces 10 = .ok (.iload_n 1, 1) := by decide +kernel
theorem d_Tp_pieces_11 : decode b_Tp_pieces 11 = .ok (.iconst (-1), 1) := by decide +kernel
theorem d_Tp_pieces_12 : decode b_Tp_pieces 12 = .ok (.if_icmp .ne 11, 3) := by decide +kernel
theorem d_Tp_pieces_15 : decode b_Tp_pieces 15 = .ok (.aload_n 0, 1) := by decide +kernel
theorem d_Tp_pieces_16 : decode b_Tp_pieces 16 = .ok (.getfield 24, 3) := by decide +kernel
theorem d_Tp_pieces_19 : decode b_Tp_pieces 19 = .ok (.invokevirtual 69, 3) := by decide +kernel
theorem d_Tp_pieces_22 : decode b_Tp_pieces 22 = .ok (.ireturn, 1) := by decide +kernel
theorem d_Tp_pieces_23 : decode b_Tp_pieces 23 = .ok (.aload_n 0, 1) := by decide +kernel
theorem d_Tp_pieces_24 : decode b_Tp_pieces 24 = .ok (.iload_n 1, 1) := by decide +kernel
theorem d_Tp_pieces_25 : decode b_Tp_pieces 25 = .ok (.invokevirtual 58, 3) := by decide +kernel
theorem d_Tp_pieces_28 : decode b_Tp_pieces 28 = .ok (.ifCond .eq 14, 3) := by decide +kernel
theorem d_Tp_pieces_31 : decode b_Tp_pieces 31 = .ok (.aload_n 0, 1) := by decide +kernel
theorem d_Tp_pieces_32 : decode b_Tp_pieces 32 = .ok (.getfield 24, 3) := by decide +kernel
theorem d_Tp_pieces_35 : decode b_Tp_pieces 35 = .ok (.iload_n 1, 1) := by decide +kernel
theorem d_Tp_pieces_36 : decode b_Tp_pieces 36 = .ok (.invokevirtual 65, 3) := by decide +kernel
theorem d_Tp_pieces_39 : decode b_Tp_pieces 39 = .ok (.goto 4, 3) := by decide +kernel
theorem d_Tp_pieces_42 : decode b_Tp_pieces 42 = .ok (.iconst (-1), 1) := by decide +kernel
theorem d_Tp_pieces_43 : decode b_Tp_pieces 43 = .ok (.ireturn, 1) := by decide +kernel
theorem d_Tp_next_0 : decode b_Tp_next 0 = .ok (.aload_n 0, 1) := by decide +kernel
theorem d_Tp_next_1 : decode b_Tp_next 1 = .ok (.getfield 50, 3) := by decide +kernel
theorem d_Tp_next_4 : decode b_Tp_next 4 = .ok (.ifCond .ne 6, 3) := by decide +kernel
theorem d_Tp_next_7 : decode b_Tp_next 7 = .ok (.bipush (-2), 2) := by decide +kernel
theorem d_Tp_next_9 : decode b_Tp_next 9 = .ok (.ireturn, 1) := by decide +kernel
theorem d_Tp_next_10 : decode b_Tp_next 10 = .ok (.aload_n 0, 1) := by decide +kernel
theorem d_Tp_next_11 : decode b_Tp_next 11 = .ok (.iload_n 1, 1) := by decide +kernel
theorem d_Tp_next_12 : decode b_Tp_next 12 = .ok (.invokevirtual 58, 3) := by decide +kernel
theorem d_Tp_next_15 : decode b_Tp_next 15 = .ok (.ifCond .eq 10, 3) := by decide +kernel
theorem d_Tp_next_18 : decode b_Tp_next 18 = .ok (.iload_n 2, 1) := by decide +kernel
theorem d_Tp_next_19 : decode b_Tp_next 19 = .ok (.invokestatic 80, 3) := by decide +kernel
theorem d_Tp_next_22 : decode b_Tp_next 22 = .ok (.ifCond .ne 5, 3) := by decide +kernel
theorem d_Tp_next_25 : decode b_Tp_next 25 = .ok (.iconst (-1), 1) := by decide +kernel
theorem d_Tp_next_26 : decode b_Tp_next 26 = .ok (.ireturn, 1) := by decide +kernel
theorem d_Tp_next_27 : decode b_Tp_next 27 = .ok (.iload_n 2, 1) := by decide +kernel
theorem d_Tp_next_28 : decode b_Tp_next 28 = .ok (.istore_n 3, 1) := by decide +kernel
theorem d_Tp_next_29 : decode b_Tp_next 29 = .ok (.iload_n 3, 1) := by decide +kernel
theorem d_Tp_next_30 : decode b_Tp_next 30 = .ok (.sipush 128, 3) := by decide +kernel
theorem d_Tp_next_33 : decode b_Tp_next 33 = .ok (.if_icmp .ge 23, 3) := by decide +kernel
theorem d_Tp_next_36 : decode b_Tp_next 36 = .ok (.aload_n 0, 1) := by decide +kernel
theorem d_Tp_next_37 : decode b_Tp_next 37 = .ok (.getfield 24, 3) := by decide +kernel
theorem d_Tp_next_40 : decode b_Tp_next 40 = .ok (.iload_n 1, 1) := by decide +kernel
theorem d_Tp_next_41 : decode b_Tp_next 41 = .ok (.iload_n 3, 1) := by decide +kernel
theorem d_Tp_next_42 : decode b_Tp_next 42 = .ok (.invokevirtual 90, 3) := by decide +kernel
theorem d_Tp_next_45 : decode b_Tp_next 45 = .ok (.ifCond .eq 5, 3) := by decide +kernel
theorem d_Tp_next_48 : decode b_Tp_next 48 = .ok (.iload_n 3, 1) := by decide +kernel
theorem d_Tp_next_49 : decode b_Tp_next 49 = .ok (.ireturn, 1) := by decide +kernel
theorem d_Tp_next_50 : decode b_Tp_next 50 = .ok (.iinc 3 1, 3) := by decide +kernel
theorem d_Tp_next_53 : decode b_Tp_next 53 = .ok (.goto (-24), 3) := by decide +kernel
theorem d_Tp_next_56 : decode b_Tp_next 56 = .ok (.sipush 128, 3) := by decide +kernel
theorem d_Tp_next_59 : decode b_Tp_next 59 = .ok (.ireturn, 1) := by decide +kernel
theorem d_Tp_shared_0 : decode b_Tp_shared 0 = .ok (.aload_n 0, 1) := by decide +kernel
theorem d_Tp_shared_1 : decode b_Tp_shared 1 = .ok (.getfield 50, 3) := by decide +kernel
theorem d_Tp_shared_4 : decode b_Tp_shared 4 = .ok (.ifCond .ne 6, 3) := by decide +kernel
theorem d_Tp_shared_7 : decode b_Tp_shared 7 = .ok (.bipush (-2), 2) := by decide +kernel
theorem d_Tp_shared_9 : decode b_Tp_shared 9 = .ok (.ireturn, 1) := by decide +kernel
theorem d_Tp_shared_10 : decode b_Tp_shared 10 = .ok (.aload_n 0, 1) := by decide +kernel
theorem d_Tp_shared_11 : decode b_Tp_shared 11 = .ok (.iload_n 1, 1) := by decide +kernel
theorem d_Tp_shared_12 : decode b_Tp_shared 12 = .ok (.invokevirtual 58, 3) := by decide +kernel
theorem d_Tp_shared_15 : decode b_Tp_shared 15 = .ok (.ifCond .eq 10, 3) := by decide +kernel
theorem d_Tp_shared_18 : decode b_Tp_shared 18 = .ok (.iload_n 2, 1) := by decide +kernel
theorem d_Tp_shared_19 : decode b_Tp_shared 19 = .ok (.invokestatic 80, 3) := by decide +kernel
theorem d_Tp_shared_22 : decode b_Tp_shared 22 = .ok (.ifCond .ne 5, 3) := by decide +kernel
theorem d_Tp_shared_25 : decode b_Tp_shared 25 = .ok (.iconst (-1), 1) := by decide +kernel
theorem d_Tp_shared_26 : decode b_Tp_shared 26 = .ok (.ireturn, 1) := by decide +kernel
theorem d_Tp_shared_27 : decode b_Tp_shared 27 = .ok (.aload_n 0, 1) := by decide +kernel
theorem d_Tp_shared_28 : decode b_Tp_shared 28 = .ok (.getfield 24, 3) := by decide +kernel
theorem d_Tp_shared_31 : decode b_Tp_shared 31 = .ok (.iload_n 1, 1) := by decide +kernel
theorem d_Tp_shared_32 : decode b_Tp_shared 32 = .ok (.iload_n 2, 1) := by decide +kernel
theorem d_Tp_shared_33 : decode b_Tp_shared 33 = .ok (.invokevirtual 90, 3) := by decide +kernel
theorem d_Tp_shared_36 : decode b_Tp_shared 36 = .ok (.istore_n 3, 1) := by decide +kernel
theorem d_Tp_shared_37 : decode b_Tp_shared 37 = .ok (.iload_n 3, 1) := by decide +kernel
theorem d_Tp_shared_38 : decode b_Tp_shared 38 = .ok (.ifCond .ne 5, 3) := by decide +kernel
theorem d_Tp_shared_41 : decode b_Tp_shared 41 = .ok (.iconst 0, 1) := by decide +kernel
theorem d_Tp_shared_42 : decode b_Tp_shared 42 = .ok (.ireturn, 1) := by decide +kernel
theorem d_Tp_shared_43 : decode b_Tp_shared 43 = .ok (.iconst 0, 1) := by decide +kernel
theorem d_Tp_shared_44 : decode b_Tp_shared 44 = .ok (.istore 4, 2) := by decide +kernel
theorem d_Tp_shared_46 : decode b_Tp_shared 46 = .ok (.iload 4, 2) := by decide +kernel
theorem d_Tp_shared_48 : decode b_Tp_shared 48 = .ok (.bipush 16, 2) := by decide +kernel
theorem d_Tp_shared_50 : decode b_Tp_shared 50 = .ok (.if_icmp .ge 31, 3) := by decide +kernel
theorem d_Tp_shared_53 : decode b_Tp_shared 53 = .ok (.iload 4, 2) := by decide +kernel
theorem d_Tp_shared_55 : decode b_Tp_shared 55 = .ok (.iload_n 1, 1) := by decide +kernel
theorem d_Tp_shared_56 : decode b_Tp_shared 56 = .ok (.if_icmp .eq 19, 3) := by decide +kernel
theorem d_Tp_shared_59 : decode b_Tp_shared 59 = .ok (.aload_n 0, 1) := by decide +kernel
theorem d_Tp_shared_60 : decode b_Tp_shared 60 = .ok (.getfield 24, 3) := by decide +kernel
theorem d_Tp_shared_63 : decode b_Tp_shared 63 = .ok (.iload 4, 2) := by decide +kernel
theorem d_Tp_shared_65 : decode b_Tp_shared 65 = .ok (.iload_n 2, 1) := by decide +kernel
theorem d_Tp_shared_66 : decode b_Tp_shared 66 = .ok (.invokevirtual 90, 3) := by decide +kernel
theorem d_Tp_shared_69 : decode b_Tp_shared 69 = .ok (.iload_n 3, 1) := by decide +kernel
theorem d_Tp_shared_70 : decode b_Tp_shared 70 = .ok (.if_icmp .ne 5, 3) := by decide +kernel
theorem d_Tp_shared_73 : decode b_Tp_shared 73 = .ok (.iconst 1, 1) := by decide +kernel
theorem d_Tp_shared_74 : decode b_Tp_shared 74 = .ok (.ireturn, 1) := by decide +kernel
theorem d_Tp_shared_75 : decode b_Tp_shared 75 = .ok (.iinc 4 1, 3) := by decide +kernel
theorem d_Tp_shared_78 : decode b_Tp_shared 78 = .ok (.goto (-32), 3) := by decide +kernel
theorem d_Tp_shared_81 : decode b_Tp_shared 81 = .ok (.iconst 0, 1) := by decide +kernel
theorem d_Tp_shared_82 : decode b_Tp_shared 82 = .ok (.ireturn, 1) := by decide +kernel
theorem d_Tp_tell_0 : decode b_Tp_tell 0 = .ok (.aload_n 0, 1) := by decide +kernel
theorem d_Tp_tell_1 : decode b_Tp_tell 1 = .ok (.getfield 50, 3) := by decide +kernel
theorem d_Tp_tell_4 : decode b_Tp_tell 4 = .ok (.ifCond .ne 6, 3) := by decide +kernel
theorem d_Tp_tell_7 : decode b_Tp_tell 7 = .ok (.bipush (-2), 2) := by decide +kernel
theorem d_Tp_tell_9 : decode b_Tp_tell 9 = .ok (.ireturn, 1) := by decide +kernel
theorem d_Tp_tell_10 : decode b_Tp_tell 10 = .ok (.iload_n 1, 1) := by decide +kernel
theorem d_Tp_tell_11 : decode b_Tp_tell 11 = .ok (.invokestatic 107, 3) := by decide +kernel
theorem d_Tp_tell_14 : decode b_Tp_tell 14 = .ok (.ifCond .eq 10, 3) := by decide +kernel
theorem d_Tp_tell_17 : decode b_Tp_tell 17 = .ok (.iload_n 2, 1) := by decide +kernel
theorem d_Tp_tell_18 : decode b_Tp_tell 18 = .ok (.invokestatic 87, 3) := by decide +kernel
theorem d_Tp_tell_21 : decode b_Tp_tell 21 = .ok (.ifCond .ne 5, 3) := by decide +kernel
theorem d_Tp_tell_24 : decode b_Tp_tell 24 = .ok (.iconst (-1), 1) := by decide +kernel
theorem d_Tp_tell_25 : decode b_Tp_tell 25 = .ok (.ireturn, 1) := by decide +kernel
theorem d_Tp_tell_26 : decode b_Tp_tell 26 = .ok (.aload_n 0, 1) := by decide +kernel
theorem d_Tp_tell_27 : decode b_Tp_tell 27 = .ok (.getfield 24, 3) := by decide +kernel
theorem d_Tp_tell_30 : decode b_Tp_tell 30 = .ok (.getfield 110, 3) := by decide +kernel
theorem d_Tp_tell_33 : decode b_Tp_tell 33 = .ok (.iload_n 1, 1) := by decide +kernel
theorem d_Tp_tell_34 : decode b_Tp_tell 34 = .ok (.invokevirtual 113, 3) := by decide +kernel
theorem d_Tp_tell_37 : decode b_Tp_tell 37 = .ok (.istore_n 3, 1) := by decide +kernel
theorem d_Tp_tell_38 : decode b_Tp_tell 38 = .ok (.aload_n 0, 1) := by decide +kernel
theorem d_Tp_tell_39 : decode b_Tp_tell 39 = .ok (.getfield 24, 3) := by decide +kernel
theorem d_Tp_tell_42 : decode b_Tp_tell 42 = .ok (.getfield 110, 3) := by decide +kernel
theorem d_Tp_tell_45 : decode b_Tp_tell 45 = .ok (.iload_n 1, 1) := by decide +kernel
theorem d_Tp_tell_46 : decode b_Tp_tell 46 = .ok (.iload_n 2, 1) := by decide +kernel
theorem d_Tp_tell_47 : decode b_Tp_tell 47 = .ok (.invokevirtual 116, 3) := by decide +kernel
theorem d_Tp_tell_50 : decode b_Tp_tell 50 = .ok (.iload_n 3, 1) := by decide +kernel
theorem d_Tp_tell_51 : decode b_Tp_tell 51 = .ok (.ireturn, 1) := by decide +kernel
theorem d_Tp_told_0 : decode b_Tp_told 0 = .ok (.aload_n 0, 1) := by decide +kernel
theorem d_Tp_told_1 : decode b_Tp_told 1 = .ok (.getfield 50, 3) := by decide +kernel
theorem d_Tp_told_4 : decode b_Tp_told 4 = .ok (.ifCond .ne 6, 3) := by decide +kernel
theorem d_Tp_told_7 : decode b_Tp_told 7 = .ok (.bipush (-2), 2) := by decide +kernel
theorem d_Tp_told_9 : decode b_Tp_told 9 = .ok (.ireturn, 1) := by decide +kernel
theorem d_Tp_told_10 : decode b_Tp_told 10 = .ok (.iload_n 1, 1) := by decide +kernel
theorem d_Tp_told_11 : decode b_Tp_told 11 = .ok (.invokestatic 107, 3) := by decide +kernel
theorem d_Tp_told_14 : decode b_Tp_told 14 = .ok (.ifCond .eq 17, 3) := by decide +kernel
theorem d_Tp_told_17 : decode b_Tp_told 17 = .ok (.aload_n 0, 1) := by decide +kernel
theorem d_Tp_told_18 : decode b_Tp_told 18 = .ok (.getfield 24, 3) := by decide +kernel
theorem d_Tp_told_21 : decode b_Tp_told 21 = .ok (.getfield 110, 3) := by decide +kernel
theorem d_Tp_told_24 : decode b_Tp_told 24 = .ok (.iload_n 1, 1) := by decide +kernel
theorem d_Tp_told_25 : decode b_Tp_told 25 = .ok (.invokevirtual 113, 3) := by decide +kernel
theorem d_Tp_told_28 : decode b_Tp_told 28 = .ok (.goto 4, 3) := by decide +kernel
theorem d_Tp_told_31 : decode b_Tp_told 31 = .ok (.iconst (-1), 1) := by decide +kernel
theorem d_Tp_told_32 : decode b_Tp_told 32 = .ok (.ireturn, 1) := by decide +kernel
theorem d_Tp_keep_0 : decode b_Tp_keep 0 = .ok (.aload_n 0, 1) := by decide +kernel
theorem d_Tp_keep_1 : decode b_Tp_keep 1 = .ok (.getfield 50, 3) := by decide +kernel
theorem d_Tp_keep_4 : decode b_Tp_keep 4 = .ok (.ifCond .ne 6, 3) := by decide +kernel
theorem d_Tp_keep_7 : decode b_Tp_keep 7 = .ok (.bipush (-2), 2) := by decide +kernel
theorem d_Tp_keep_9 : decode b_Tp_keep 9 = .ok (.ireturn, 1) := by decide +kernel
theorem d_Tp_keep_10 : decode b_Tp_keep 10 = .ok (.iload_n 1, 1) := by decide +kernel
theorem d_Tp_keep_11 : decode b_Tp_keep 11 = .ok (.ifCond .lt 8, 3) := by decide +kernel
theorem d_Tp_keep_14 : decode b_Tp_keep 14 = .ok (.iload_n 1, 1) := by decide +kernel
theorem d_Tp_keep_15 : decode b_Tp_keep 15 = .ok (.iconst 2, 1) := by decide +kernel
theorem d_Tp_keep_16 : decode b_Tp_keep 16 = .ok (.if_icmp .le 5, 3) := by decide +kernel
theorem d_Tp_keep_19 : decode b_Tp_keep 19 = .ok (.iconst (-1), 1) := by decide +kernel
theorem d_Tp_keep_20 : decode b_Tp_keep 20 = .ok (.ireturn, 1) := by decide +kernel
theorem d_Tp_keep_21 : decode b_Tp_keep 21 = .ok (.aload_n 0, 1) := by decide +kernel
theorem d_Tp_keep_22 : decode b_Tp_keep 22 = .ok (.iload_n 1, 1) := by decide +kernel
theorem d_Tp_keep_23 : decode b_Tp_keep 23 = .ok (.iconst 1, 1) := by decide +kernel
theorem d_Tp_keep_24 : decode b_Tp_keep 24 = .ok (.if_icmp .ne 7, 3) := by decide +kernel
theorem d_Tp_keep_27 : decode b_Tp_keep 27 = .ok (.iconst 1, 1) := by decide +kernel
theorem d_Tp_keep_28 : decode b_Tp_keep 28 = .ok (.goto 4, 3) := by decide +kernel
theorem d_Tp_keep_31 : decode b_Tp_keep 31 = .ok (.iconst 0, 1) := by decide +kernel
theorem d_Tp_keep_32 : decode b_Tp_keep 32 = .ok (.lload_n 2, 1) := by decide +kernel
theorem d_Tp_keep_33 : decode b_Tp_keep 33 = .ok (.invokevirtual 119, 3) := by decide +kernel
theorem d_Tp_keep_36 : decode b_Tp_keep 36 = .ok (.iload_n 1, 1) := by decide +kernel
theorem d_Tp_keep_37 : decode b_Tp_keep 37 = .ok (.iconst 1, 1) := by decide +kernel
theorem d_Tp_keep_38 : decode b_Tp_keep 38 = .ok (.if_icmp .ne 10, 3) := by decide +kernel
theorem d_Tp_keep_41 : decode b_Tp_keep 41 = .ok (.aload_n 0, 1) := by decide +kernel
theorem d_Tp_keep_42 : decode b_Tp_keep 42 = .ok (.invokevirtual 123, 3) := by decide +kernel
theorem d_Tp_keep_45 : decode b_Tp_keep 45 = .ok (.bipush (-2), 2) := by decide +kernel
theorem d_Tp_keep_47 : decode b_Tp_keep 47 = .ok (.ireturn, 1) := by decide +kernel
theorem d_Tp_keep_48 : decode b_Tp_keep 48 = .ok (.aload_n 0, 1) := by decide +kernel
theorem d_Tp_keep_49 : decode b_Tp_keep 49 = .ok (.iload_n 1, 1) := by decide +kernel
theorem d_Tp_keep_50 : decode b_Tp_keep 50 = .ok (.iconst 2, 1) := by decide +kernel
theorem d_Tp_keep_51 : decode b_Tp_keep 51 = .ok (.if_icmp .ne 7, 3) := by decide +kernel
theorem d_Tp_keep_54 : decode b_Tp_keep 54 = .ok (.iconst 1, 1) := by decide +kernel
theorem d_Tp_keep_55 : decode b_Tp_keep 55 = .ok (.goto 4, 3) := by decide +kernel
theorem d_Tp_keep_58 : decode b_Tp_keep 58 = .ok (.iconst 0, 1) := by decide +kernel
theorem d_Tp_keep_59 : decode b_Tp_keep 59 = .ok (.lload_n 2, 1) := by decide +kernel
theorem d_Tp_keep_60 : decode b_Tp_keep 60 = .ok (.invokevirtual 126, 3) := by decide +kernel
theorem d_Tp_keep_63 : decode b_Tp_keep 63 = .ok (.iload_n 1, 1) := by decide +kernel
theorem d_Tp_keep_64 : decode b_Tp_keep 64 = .ok (.iconst 2, 1) := by decide +kernel
theorem d_Tp_keep_65 : decode b_Tp_keep 65 = .ok (.if_icmp .ne 10, 3) := by decide +kernel
theorem d_Tp_keep_68 : decode b_Tp_keep 68 = .ok (.aload_n 0, 1) := by decide +kernel
theorem d_Tp_keep_69 : decode b_Tp_keep 69 = .ok (.invokevirtual 123, 3) := by decide +kernel
theorem d_Tp_keep_72 : decode b_Tp_keep 72 = .ok (.bipush (-2), 2) := by decide +kernel
theorem d_Tp_keep_74 : decode b_Tp_keep 74 = .ok (.ireturn, 1) := by decide +kernel
theorem d_Tp_keep_75 : decode b_Tp_keep 75 = .ok (.aload_n 0, 1) := by decide +kernel
theorem d_Tp_keep_76 : decode b_Tp_keep 76 = .ok (.aload_n 0, 1) := by decide +kernel
theorem d_Tp_keep_77 : decode b_Tp_keep 77 = .ok (.invokevirtual 129, 3) := by decide +kernel
theorem d_Tp_keep_80 : decode b_Tp_keep 80 = .ok (.invokevirtual 132, 3) := by decide +kernel
theorem d_Tp_keep_83 : decode b_Tp_keep 83 = .ok (.aload_n 0, 1) := by decide +kernel
theorem d_Tp_keep_84 : decode b_Tp_keep 84 = .ok (.getfield 24, 3) := by decide +kernel
theorem d_Tp_keep_87 : decode b_Tp_keep 87 = .ok (.invokevirtual 69, 3) := by decide +kernel
theorem d_Tp_keep_90 : decode b_Tp_keep 90 = .ok (.ireturn, 1) := by decide +kernel
theorem d_Tp_fail_0 : decode b_Tp_fail 0 = .ok (.aload_n 0, 1) := by decide +kernel
theorem d_Tp_fail_1 : decode b_Tp_fail 1 = .ok (.getfield 50, 3) := by decide +kernel
theorem d_Tp_fail_4 : decode b_Tp_fail 4 = .ok (.ifCond .ne 6, 3) := by decide +kernel
theorem d_Tp_fail_7 : decode b_Tp_fail 7 = .ok (.bipush (-2), 2) := by decide +kernel
theorem d_Tp_fail_9 : decode b_Tp_fail 9 = .ok (.ireturn, 1) := by decide +kernel
theorem d_Tp_fail_10 : decode b_Tp_fail 10 = .ok (.aload_n 0, 1) := by decide +kernel
theorem d_Tp_fail_11 : decode b_Tp_fail 11 = .ok (.invokevirtual 123, 3) := by decide +kernel
theorem d_Tp_fail_14 : decode b_Tp_fail 14 = .ok (.iconst 0, 1) := by decide +kernel
theorem d_Tp_fail_15 : decode b_Tp_fail 15 = .ok (.ireturn, 1) := by decide +kernel
theorem d_Tp_mount_0 : decode b_Tp_mount 0 = .ok (.aload_n 0, 1) := by decide +kernel
theorem d_Tp_mount_1 : decode b_Tp_mount 1 = .ok (.getfield 50, 3) := by decide +kernel
theorem d_Tp_mount_4 : decode b_Tp_mount 4 = .ok (.ifCond .eq 5, 3) := by decide +kernel
theorem d_Tp_mount_7 : decode b_Tp_mount 7 = .ok (.iconst (-1), 1) := by decide +kernel
theorem d_Tp_mount_8 : decode b_Tp_mount 8 = .ok (.ireturn, 1) := by decide +kernel
theorem d_Tp_mount_9 : decode b_Tp_mount 9 = .ok (.aload_n 0, 1) := by decide +kernel
theorem d_Tp_mount_10 : decode b_Tp_mount 10 = .ok (.getfield 12, 3) := by decide +kernel
theorem d_Tp_mount_13 : decode b_Tp_mount 13 = .ok (.aload_n 0, 1) := by decide +kernel
theorem d_Tp_mount_14 : decode b_Tp_mount 14 = .ok (.getfield 16, 3) := by decide +kernel
theorem d_Tp_mount_17 : decode b_Tp_mount 17 = .ok (.invokevirtual 135, 3) := by decide +kernel
theorem d_Tp_mount_20 : decode b_Tp_mount 20 = .ok (.aload_n 0, 1) := by decide +kernel
theorem d_Tp_mount_21 : decode b_Tp_mount 21 = .ok (.aload_n 0, 1) := by decide +kernel
theorem d_Tp_mount_22 : decode b_Tp_mount 22 = .ok (.invokevirtual 138, 3) := by decide +kernel
theorem d_Tp_mount_25 : decode b_Tp_mount 25 = .ok (.invokevirtual 132, 3) := by decide +kernel
theorem d_Tp_mount_28 : decode b_Tp_mount 28 = .ok (.aload_n 0, 1) := by decide +kernel
theorem d_Tp_mount_29 : decode b_Tp_mount 29 = .ok (.iconst 1, 1) := by decide +kernel
theorem d_Tp_mount_30 : decode b_Tp_mount 30 = .ok (.putfield 50, 3) := by decide +kernel
theorem d_Tp_mount_33 : decode b_Tp_mount 33 = .ok (.aload_n 0, 1) := by decide +kernel
theorem d_Tp_mount_34 : decode b_Tp_mount 34 = .ok (.getfield 24, 3) := by decide +kernel
theorem d_Tp_mount_37 : decode b_Tp_mount 37 = .ok (.invokevirtual 69, 3) := by decide +kernel
theorem d_Tp_mount_40 : decode b_Tp_mount 40 = .ok (.ireturn, 1) := by decide +kernel
theorem d_Tp_count_0 : decode b_Tp_count 0 = .ok (.aload_n 0, 1) := by decide +kernel
theorem d_Tp_count_1 : decode b_Tp_count 1 = .ok (.getfield 50, 3) := by decide +kernel
theorem d_Tp_count_4 : decode b_Tp_count 4 = .ok (.ifCond .ne 6, 3) := by decide +kernel
theorem d_Tp_count_7 : decode b_Tp_count 7 = .ok (.bipush (-2), 2) := by decide +kernel
theorem d_Tp_count_9 : decode b_Tp_count 9 = .ok (.ireturn, 1) := by decide +kernel
theorem d_Tp_count_10 : decode b_Tp_count 10 = .ok (.iload_n 1, 1) := by decide +kernel
theorem d_Tp_count_11 : decode b_Tp_count 11 = .ok (.lookupswitch 37 #[(0, 25), (1, 30)], 25) := by decide +kernel
theorem d_Tp_count_36 : decode b_Tp_count 36 = .ok (.aload_n 0, 1) := by decide +kernel
theorem d_Tp_count_37 : decode b_Tp_count 37 = .ok (.invokevirtual 141, 3) := by decide +kernel
theorem d_Tp_count_40 : decode b_Tp_count 40 = .ok (.ireturn, 1) := by decide +kernel
theorem d_Tp_count_41 : decode b_Tp_count 41 = .ok (.aload_n 0, 1) := by decide +kernel
theorem d_Tp_count_42 : decode b_Tp_count 42 = .ok (.invokevirtual 144, 3) := by decide +kernel
theorem d_Tp_count_45 : decode b_Tp_count 45 = .ok (.iconst 1, 1) := by decide +kernel
theorem d_Tp_count_46 : decode b_Tp_count 46 = .ok (.isub, 1) := by decide +kernel
theorem d_Tp_count_47 : decode b_Tp_count 47 = .ok (.ireturn, 1) := by decide +kernel
theorem d_Tp_count_48 : decode b_Tp_count 48 = .ok (.iconst (-1), 1) := by decide +kernel
theorem d_Tp_count_49 : decode b_Tp_count 49 = .ok (.ireturn, 1) := by decide +kernel
theorem d_Tp_check_0 : decode b_Tp_check 0 = .ok (.aload_n 0, 1) := by decide +kernel
theorem d_Tp_check_1 : decode b_Tp_check 1 = .ok (.getfield 50, 3) := by decide +kernel
theorem d_Tp_check_4 : decode b_Tp_check 4 = .ok (.ifCond .ne 6, 3) := by decide +kernel
theorem d_Tp_check_7 : decode b_Tp_check 7 = .ok (.bipush (-2), 2) := by decide +kernel
theorem d_Tp_check_9 : decode b_Tp_check 9 = .ok (.ireturn, 1) := by decide +kernel
theorem d_Tp_check_10 : decode b_Tp_check 10 = .ok (.aload_n 0, 1) := by decide +kernel
theorem d_Tp_check_11 : decode b_Tp_check 11 = .ok (.getfield 43, 3) := by decide +kernel
theorem d_Tp_check_14 : decode b_Tp_check 14 = .ok (.aload_n 0, 1) := by decide +kernel
theorem d_Tp_check_15 : decode b_Tp_check 15 = .ok (.getfield 12, 3) := by decide +kernel
theorem d_Tp_check_18 : decode b_Tp_check 18 = .ok (.aload_n 0, 1) := by decide +kernel
theorem d_Tp_check_19 : decode b_Tp_check 19 = .ok (.getfield 24, 3) := by decide +kernel
theorem d_Tp_check_22 : decode b_Tp_check 22 = .ok (.getfield 110, 3) := by decide +kernel
theorem d_Tp_check_25 : decode b_Tp_check 25 = .ok (.invokevirtual 147, 3) := by decide +kernel
theorem d_Tp_check_28 : decode b_Tp_check 28 = .ok (.istore_n 1, 1) := by decide +kernel
theorem d_Tp_check_29 : decode b_Tp_check 29 = .ok (.iload_n 1, 1) := by decide +kernel
theorem d_Tp_check_30 : decode b_Tp_check 30 = .ok (.ifCond .ne 22, 3) := by decide +kernel
theorem d_Tp_check_33 : decode b_Tp_check 33 = .ok (.aload_n 0, 1) := by decide +kernel
theorem d_Tp_check_34 : decode b_Tp_check 34 = .ok (.getfield 43, 3) := by decide +kernel
theorem d_Tp_check_37 : decode b_Tp_check 37 = .ok (.aload_n 0, 1) := by decide +kernel
theorem d_Tp_check_38 : decode b_Tp_check 38 = .ok (.getfield 12, 3) := by decide +kernel
theorem d_Tp_check_41 : decode b_Tp_check 41 = .ok (.aload_n 0, 1) := by decide +kernel
theorem d_Tp_check_42 : decode b_Tp_check 42 = .ok (.getfield 24, 3) := by decide +kernel
theorem d_Tp_check_45 : decode b_Tp_check 45 = .ok (.getfield 151, 3) := by decide +kernel
theorem d_Tp_check_48 : decode b_Tp_check 48 = .ok (.invokevirtual 147, 3) := by decide +kernel
theorem d_Tp_check_51 : decode b_Tp_check 51 = .ok (.istore_n 1, 1) := by decide +kernel
theorem d_Tp_check_52 : decode b_Tp_check 52 = .ok (.iload_n 1, 1) := by decide +kernel
theorem d_Tp_check_53 : decode b_Tp_check 53 = .ok (.ifCond .eq 7, 3) := by decide +kernel
theorem d_Tp_check_56 : decode b_Tp_check 56 = .ok (.iload_n 1, 1) := by decide +kernel
theorem d_Tp_check_57 : decode b_Tp_check 57 = .ok (.goto 18, 3) := by decide +kernel
theorem d_Tp_check_60 : decode b_Tp_check 60 = .ok (.aload_n 0, 1) := by decide +kernel
theorem d_Tp_check_61 : decode b_Tp_check 61 = .ok (.getfield 43, 3) := by decide +kernel
theorem d_Tp_check_64 : decode b_Tp_check 64 = .ok (.aload_n 0, 1) := by decide +kernel
theorem d_Tp_check_65 : decode b_Tp_check 65 = .ok (.getfield 16, 3) := by decide +kernel
theorem d_Tp_check_68 : decode b_Tp_check 68 = .ok (.aload_n 0, 1) := by decide +kernel
theorem d_Tp_check_69 : decode b_Tp_check 69 = .ok (.invokevirtual 154, 3) := by decide +kernel
theorem d_Tp_check_72 : decode b_Tp_check 72 = .ok (.invokevirtual 147, 3) := by decide +kernel
theorem d_Tp_check_75 : decode b_Tp_check 75 = .ok (.ireturn, 1) := by decide +kernel
theorem d_Tp_isVolume_0 : decode b_Tp_isVolume 0 = .ok (.iload_n 0, 1) := by decide +kernel
theorem d_Tp_isVolume_1 : decode b_Tp_isVolume 1 = .ok (.ifCond .lt 13, 3) := by decide +kernel
theorem d_Tp_isVolume_4 : decode b_Tp_isVolume 4 = .ok (.iload_n 0, 1) := by decide +kernel
theorem d_Tp_isVolume_5 : decode b_Tp_isVolume 5 = .ok (.bipush 16, 2) := by decide +kernel
theorem d_Tp_isVolume_7 : decode b_Tp_isVolume 7 = .ok (.if_icmp .ge 7, 3) := by decide +kernel
theorem d_Tp_isVolume_10 : decode b_Tp_isVolume 10 = .ok (.iconst 1, 1) := by decide +kernel
theorem d_Tp_isVolume_11 : decode b_Tp_isVolume 11 = .ok (.goto 4, 3) := by decide +kernel
theorem d_Tp_isVolume_14 : decode b_Tp_isVolume 14 = .ok (.iconst 0, 1) := by decide +kernel
theorem d_Tp_isVolume_15 : decode b_Tp_isVolume 15 = .ok (.ireturn, 1) := by decide +kernel
theorem d_Tp_isPiece_0 : decode b_Tp_isPiece 0 = .ok (.iload_n 0, 1) := by decide +kernel
theorem d_Tp_isPiece_1 : decode b_Tp_isPiece 1 = .ok (.ifCond .lt 14, 3) := by decide +kernel
theorem d_Tp_isPiece_4 : decode b_Tp_isPiece 4 = .ok (.iload_n 0, 1) := by decide +kernel
theorem d_Tp_isPiece_5 : decode b_Tp_isPiece 5 = .ok (.sipush 128, 3) := by decide +kernel
theorem d_Tp_isPiece_8 : decode b_Tp_isPiece 8 = .ok (.if_icmp .ge 7, 3) := by decide +kernel
theorem d_Tp_isPiece_11 : decode b_Tp_isPiece 11 = .ok (.iconst 1, 1) := by decide +kernel
theorem d_Tp_isPiece_12 : decode b_Tp_isPiece 12 = .ok (.goto 4, 3) := by decide +kernel
theorem d_Tp_isPiece_15 : decode b_Tp_isPiece 15 = .ok (.iconst 0, 1) := by decide +kernel
theorem d_Tp_isPiece_16 : decode b_Tp_isPiece 16 = .ok (.ireturn, 1) := by decide +kernel
theorem d_Tp_areBytes_0 : decode b_Tp_areBytes 0 = .ok (.iload_n 1, 1) := by decide +kernel
theorem d_Tp_areBytes_1 : decode b_Tp_areBytes 1 = .ok (.iconst 1, 1) := by decide +kernel
theorem d_Tp_areBytes_2 : decode b_Tp_areBytes 2 = .ok (.if_icmp .lt 27, 3) := by decide +kernel
theorem d_Tp_areBytes_5 : decode b_Tp_areBytes 5 = .ok (.iload_n 1, 1) := by decide +kernel
theorem d_Tp_areBytes_6 : decode b_Tp_areBytes 6 = .ok (.sipush 128, 3) := by decide +kernel
theorem d_Tp_areBytes_9 : decode b_Tp_areBytes 9 = .ok (.if_icmp .gt 20, 3) := by decide +kernel
theorem d_Tp_areBytes_12 : decode b_Tp_areBytes 12 = .ok (.iload_n 0, 1) := by decide +kernel
theorem d_Tp_areBytes_13 : decode b_Tp_areBytes 13 = .ok (.ifCond .lt 16, 3) := by decide +kernel
theorem d_Tp_areBytes_16 : decode b_Tp_areBytes 16 = .ok (.iload_n 0, 1) := by decide +kernel
theorem d_Tp_areBytes_17 : decode b_Tp_areBytes 17 = .ok (.sipush 128, 3) := by decide +kernel
theorem d_Tp_areBytes_20 : decode b_Tp_areBytes 20 = .ok (.iload_n 1, 1) := by decide +kernel
theorem d_Tp_areBytes_21 : decode b_Tp_areBytes 21 = .ok (.isub, 1) := by decide +kernel
theorem d_Tp_areBytes_22 : decode b_Tp_areBytes 22 = .ok (.if_icmp .gt 7, 3) := by decide +kernel
theorem d_Tp_areBytes_25 : decode b_Tp_areBytes 25 = .ok (.iconst 1, 1) := by decide +kernel
theorem d_Tp_areBytes_26 : decode b_Tp_areBytes 26 = .ok (.goto 4, 3) := by decide +kernel
theorem d_Tp_areBytes_29 : decode b_Tp_areBytes 29 = .ok (.iconst 0, 1) := by decide +kernel
theorem d_Tp_areBytes_30 : decode b_Tp_areBytes 30 = .ok (.ireturn, 1) := by decide +kernel
theorem d_Tp_isByte_0 : decode b_Tp_isByte 0 = .ok (.iload_n 0, 1) := by decide +kernel
theorem d_Tp_isByte_1 : decode b_Tp_isByte 1 = .ok (.ifCond .lt 14, 3) := by decide +kernel
theorem d_Tp_isByte_4 : decode b_Tp_isByte 4 = .ok (.iload_n 0, 1) := by decide +kernel
theorem d_Tp_isByte_5 : decode b_Tp_isByte 5 = .ok (.sipush 255, 3) := by decide +kernel
theorem d_Tp_isByte_8 : decode b_Tp_isByte 8 = .ok (.if_icmp .gt 7, 3) := by decide +kernel
theorem d_Tp_isByte_11 : decode b_Tp_isByte 11 = .ok (.iconst 1, 1) := by decide +kernel
theorem d_Tp_isByte_12 : decode b_Tp_isByte 12 = .ok (.goto 4, 3) := by decide +kernel
theorem d_Tp_isByte_15 : decode b_Tp_isByte 15 = .ok (.iconst 0, 1) := by decide +kernel
theorem d_Tp_isByte_16 : decode b_Tp_isByte 16 = .ok (.ireturn, 1) := by decide +kernel
theorem d_Tp_isNote_0 : decode b_Tp_isNote 0 = .ok (.iload_n 0, 1) := by decide +kernel
theorem d_Tp_isNote_1 : decode b_Tp_isNote 1 = .ok (.ifCond .lt 13, 3) := by decide +kernel
theorem d_Tp_isNote_4 : decode b_Tp_isNote 4 = .ok (.iload_n 0, 1) := by decide +kernel
theorem d_Tp_isNote_5 : decode b_Tp_isNote 5 = .ok (.bipush 32, 2) := by decide +kernel
theorem d_Tp_isNote_7 : decode b_Tp_isNote 7 = .ok (.if_icmp .ge 7, 3) := by decide +kernel
theorem d_Tp_isNote_10 : decode b_Tp_isNote 10 = .ok (.iconst 1, 1) := by decide +kernel
theorem d_Tp_isNote_11 : decode b_Tp_isNote 11 = .ok (.goto 4, 3) := by decide +kernel
theorem d_Tp_isNote_14 : decode b_Tp_isNote 14 = .ok (.iconst 0, 1) := by decide +kernel
theorem d_Tp_isNote_15 : decode b_Tp_isNote 15 = .ok (.ireturn, 1) := by decide +kernel
theorem d_Tp_isThere_0 : decode b_Tp_isThere 0 = .ok (.iload_n 1, 1) := by decide +kernel
theorem d_Tp_isThere_1 : decode b_Tp_isThere 1 = .ok (.invokestatic 54, 3) := by decide +kernel
theorem d_Tp_isThere_4 : decode b_Tp_isThere 4 = .ok (.ifCond .eq 21, 3) := by decide +kernel
theorem d_Tp_isThere_7 : decode b_Tp_isThere 7 = .ok (.aload_n 0, 1) := by decide +kernel
theorem d_Tp_isThere_8 : decode b_Tp_isThere 8 = .ok (.getfield 24, 3) := by decide +kernel
theorem d_Tp_isThere_11 : decode b_Tp_isThere 11 = .ok (.getfield 110, 3) := by decide +kernel
theorem d_Tp_isThere_14 : decode b_Tp_isThere 14 = .ok (.iload_n 1, 1) := by decide +kernel
theorem d_Tp_isThere_15 : decode b_Tp_isThere 15 = .ok (.invokevirtual 158, 3) := by decide +kernel
theorem d_Tp_isThere_18 : decode b_Tp_isThere 18 = .ok (.ifCond .eq 7, 3) := by decide +kernel
theorem d_Tp_isThere_21 : decode b_Tp_isThere 21 = .ok (.iconst 1, 1) := by decide +kernel
theorem d_Tp_isThere_22 : decode b_Tp_isThere 22 = .ok (.goto 4, 3) := by decide +kernel
theorem d_Tp_isThere_25 : decode b_Tp_isThere 25 = .ok (.iconst 0, 1) := by decide +kernel
theorem d_Tp_isThere_26 : decode b_Tp_isThere 26 = .ok (.ireturn, 1) := by decide +kernel
theorem d_Tp_countVolumes_0 : decode b_Tp_countVolumes 0 = .ok (.iconst 0, 1) := by decide +kernel
theorem d_Tp_countVolumes_1 : decode b_Tp_countVolumes 1 = .ok (.istore_n 1, 1) := by decide +kernel
theorem d_Tp_countVolumes_2 : decode b_Tp_countVolumes 2 = .ok (.iconst 0, 1) := by decide +kernel
theorem d_Tp_countVolumes_3 : decode b_Tp_countVolumes 3 = .ok (.istore_n 2, 1) := by decide +kernel
theorem d_Tp_countVolumes_4 : decode b_Tp_countVolumes 4 = .ok (.iload_n 2, 1) := by decide +kernel
theorem d_Tp_countVolumes_5 : decode b_Tp_countVolumes 5 = .ok (.bipush 16, 2) := by decide +kernel
theorem d_Tp_countVolumes_7 : decode b_Tp_countVolumes 7 = .ok (.if_icmp .ge 20, 3) := by decide +kernel
theorem d_Tp_countVolumes_10 : decode b_Tp_countVolumes 10 = .ok (.aload_n 0, 1) := by decide +kernel
theorem d_Tp_countVolumes_11 : decode b_Tp_countVolumes 11 = .ok (.iload_n 2, 1) := by decide +kernel
theorem d_Tp_countVolumes_12 : decode b_Tp_countVolumes 12 = .ok (.invokevirtual 58, 3) := by decide +kernel
theorem d_Tp_countVolumes_15 : decode b_Tp_countVolumes 15 = .ok (.ifCond .eq 6, 3) := by decide +kernel
theorem d_Tp_countVolumes_18 : decode b_Tp_countVolumes 18 = .ok (.iinc 1 1, 3) := by decide +kernel
theorem d_Tp_countVolumes_21 : decode b_Tp_countVolumes 21 = .ok (.iinc 2 1, 3) := by decide +kernel
theorem d_Tp_countVolumes_24 : decode b_Tp_countVolumes 24 = .ok (.goto (-20), 3) := by decide +kernel
theorem d_Tp_countVolumes_27 : decode b_Tp_countVolumes 27 = .ok (.iload_n 1, 1) := by decide +kernel
theorem d_Tp_countVolumes_28 : decode b_Tp_countVolumes 28 = .ok (.ireturn, 1) := by decide +kernel
theorem d_Tp_layEmpty_0 : decode b_Tp_layEmpty 0 = .ok (.iconst 0, 1) := by decide +kernel
theorem d_Tp_layEmpty_1 : decode b_Tp_layEmpty 1 = .ok (.istore_n 1, 1) := by decide +kernel
theorem d_Tp_layEmpty_2 : decode b_Tp_layEmpty 2 = .ok (.iload_n 1, 1) := by decide +kernel
theorem d_Tp_layEmpty_3 : decode b_Tp_layEmpty 3 = .ok (.bipush 16, 2) := by decide +kernel
theorem d_Tp_layEmpty_5 : decode b_Tp_layEmpty 5 = .ok (.if_icmp .ge 17, 3) := by decide +kernel
theorem d_Tp_layEmpty_8 : decode b_Tp_layEmpty 8 = .ok (.aload_n 0, 1) := by decide +kernel
theorem d_Tp_layEmpty_9 : decode b_Tp_layEmpty 9 = .ok (.getfield 16, 3) := by decide +kernel
theorem d_Tp_layEmpty_12 : decode b_Tp_layEmpty 12 = .ok (.iload_n 1, 1) := by decide +kernel
theorem d_Tp_layEmpty_13 : decode b_Tp_layEmpty 13 = .ok (.invokevirtual 161, 3) := by decide +kernel
theorem d_Tp_layEmpty_16 : decode b_Tp_layEmpty 16 = .ok (.iinc 1 1, 3) := by decide +kernel
theorem d_Tp_layEmpty_19 : decode b_Tp_layEmpty 19 = .ok (.goto (-17), 3) := by decide +kernel
theorem d_Tp_layEmpty_22 : decode b_Tp_layEmpty 22 = .ok (.aload_n 0, 1) := by decide +kernel
theorem d_Tp_layEmpty_23 : decode b_Tp_layEmpty 23 = .ok (.getfield 16, 3) := by decide +kernel
theorem d_Tp_layEmpty_26 : decode b_Tp_layEmpty 26 = .ok (.iconst 0, 1) := by decide +kernel
theorem d_Tp_layEmpty_27 : decode b_Tp_layEmpty 27 = .ok (.iconst 0, 1) := by decide +kernel
theorem d_Tp_layEmpty_28 : decode b_Tp_layEmpty 28 = .ok (.lconst 1, 1) := by decide +kernel
theorem d_Tp_layEmpty_29 : decode b_Tp_layEmpty 29 = .ok (.invokevirtual 164, 3) := by decide +kernel
theorem d_Tp_layEmpty_32 : decode b_Tp_layEmpty 32 = .ok (.aload_n 0, 1) := by decide +kernel
theorem d_Tp_layEmpty_33 : decode b_Tp_layEmpty 33 = .ok (.getfield 12, 3) := by decide +kernel
theorem d_Tp_layEmpty_36 : decode b_Tp_layEmpty 36 = .ok (.aload_n 0, 1) := by decide +kernel
theorem d_Tp_layEmpty_37 : decode b_Tp_layEmpty 37 = .ok (.getfield 16, 3) := by decide +kernel
theorem d_Tp_layEmpty_40 : decode b_Tp_layEmpty 40 = .ok (.invokevirtual 135, 3) := by decide +kernel
theorem d_Tp_layEmpty_43 : decode b_Tp_layEmpty 43 = .ok (.aload_n 0, 1) := by decide +kernel
theorem d_Tp_layEmpty_44 : decode b_Tp_layEmpty 44 = .ok (.iconst 0, 1) := by decide +kernel
theorem d_Tp_layEmpty_45 : decode b_Tp_layEmpty 45 = .ok (.invokevirtual 132, 3) := by decide +kernel
theorem d_Tp_layEmpty_48 : decode b_Tp_layEmpty 48 = .ok (.aload_n 0, 1) := by decide +kernel
theorem d_Tp_layEmpty_49 : decode b_Tp_layEmpty 49 = .ok (.iconst 1, 1) := by decide +kernel
theorem d_Tp_layEmpty_50 : decode b_Tp_layEmpty 50 = .ok (.putfield 50, 3) := by decide +kernel
theorem d_Tp_layEmpty_53 : decode b_Tp_layEmpty 53 = .ok (.return_, 1) := by decide +kernel
theorem d_Tp_losePower_0 : decode b_Tp_losePower 0 = .ok (.aload_n 0, 1) := by decide +kernel
theorem d_Tp_losePower_1 : decode b_Tp_losePower 1 = .ok (.getfield 12, 3) := by decide +kernel
theorem d_Tp_losePower_4 : decode b_Tp_losePower 4 = .ok (.invokevirtual 168, 3) := by decide +kernel
theorem d_Tp_losePower_7 : decode b_Tp_losePower 7 = .ok (.aload_n 0, 1) := by decide +kernel
theorem d_Tp_losePower_8 : decode b_Tp_losePower 8 = .ok (.iconst 0, 1) := by decide +kernel
theorem d_Tp_losePower_9 : decode b_Tp_losePower 9 = .ok (.putfield 50, 3) := by decide +kernel
theorem d_Tp_losePower_12 : decode b_Tp_losePower 12 = .ok (.return_, 1) := by decide +kernel
theorem d_Tp_tablesDown_0 : decode b_Tp_tablesDown 0 = .ok (.aload_n 0, 1) := by decide +kernel
theorem d_Tp_tablesDown_1 : decode b_Tp_tablesDown 1 = .ok (.getfield 171, 3) := by decide +kernel
theorem d_Tp_tablesDown_4 : decode b_Tp_tablesDown 4 = .ok (.ifCond .ne 10, 3) := by decide +kernel
theorem d_Tp_tablesDown_7 : decode b_Tp_tablesDown 7 = .ok (.aload_n 0, 1) := by decide +kernel
theorem d_Tp_tablesDown_8 : decode b_Tp_tablesDown 8 = .ok (.getfield 33, 3) := by decide +kernel
theorem d_Tp_tablesDown_11 : decode b_Tp_tablesDown 11 = .ok (.goto 7, 3) := by decide +kernel
theorem d_Tp_tablesDown_14 : decode b_Tp_tablesDown 14 = .ok (.aload_n 0, 1) := by decide +kernel
theorem d_Tp_tablesDown_15 : decode b_Tp_tablesDown 15 = .ok (.getfield 37, 3) := by decide +kernel
theorem d_Tp_tablesDown_18 : decode b_Tp_tablesDown 18 = .ok (.areturn, 1) := by decide +kernel
theorem d_Tp_otherHead_0 : decode b_Tp_otherHead 0 = .ok (.iconst 1, 1) := by decide +kernel
theorem d_Tp_otherHead_1 : decode b_Tp_otherHead 1 = .ok (.aload_n 0, 1) := by decide +kernel
theorem d_Tp_otherHead_2 : decode b_Tp_otherHead 2 = .ok (.getfield 171, 3) := by decide +kernel
theorem d_Tp_otherHead_5 : decode b_Tp_otherHead 5 = .ok (.isub, 1) := by decide +kernel
theorem d_Tp_otherHead_6 : decode b_Tp_otherHead 6 = .ok (.ireturn, 1) := by decide +kernel
theorem d_Tp_newerHead_0 : decode b_Tp_newerHead 0 = .ok (.aload_n 0, 1) := by decide +kernel
theorem d_Tp_newerHead_1 : decode b_Tp_newerHead 1 = .ok (.getfield 16, 3) := by decide +kernel
theorem d_Tp_newerHead_4 : decode b_Tp_newerHead 4 = .ok (.iconst 1, 1) := by decide +kernel
theorem d_Tp_newerHead_5 : decode b_Tp_newerHead 5 = .ok (.iconst 0, 1) := by decide +kernel
theorem d_Tp_newerHead_6 : decode b_Tp_newerHead 6 = .ok (.invokevirtual 175, 3) := by decide +kernel
theorem d_Tp_newerHead_9 : decode b_Tp_newerHead 9 = .ok (.aload_n 0, 1) := by decide +kernel
theorem d_Tp_newerHead_10 : decode b_Tp_newerHead 10 = .ok (.getfield 16, 3) := by decide +kernel
theorem d_Tp_newerHead_13 : decode b_Tp_newerHead 13 = .ok (.iconst 0, 1) := by decide +kernel
theorem d_Tp_newerHead_14 : decode b_Tp_newerHead 14 = .ok (.iconst 0, 1) := by decide +kernel
theorem d_Tp_newerHead_15 : decode b_Tp_newerHead 15 = .ok (.invokevirtual 175, 3) := by decide +kernel
theorem d_Tp_newerHead_18 : decode b_Tp_newerHead 18 = .ok (.lcmp, 1) := by decide +kernel
theorem d_Tp_newerHead_19 : decode b_Tp_newerHead 19 = .ok (.ifCond .le 7, 3) := by decide +kernel
theorem d_Tp_newerHead_22 : decode b_Tp_newerHead 22 = .ok (.iconst 1, 1) := by decide +kernel
theorem d_Tp_newerHead_23 : decode b_Tp_newerHead 23 = .ok (.goto 4, 3) := by decide +kernel
theorem d_Tp_newerHead_26 : decode b_Tp_newerHead 26 = .ok (.iconst 0, 1) := by decide +kernel
theorem d_Tp_newerHead_27 : decode b_Tp_newerHead 27 = .ok (.ireturn, 1) := by decide +kernel
theorem d_Tp_keptNumber_0 : decode b_Tp_keptNumber 0 = .ok (.aload_n 0, 1) := by decide +kernel
theorem d_Tp_keptNumber_1 : decode b_Tp_keptNumber 1 = .ok (.getfield 12, 3) := by decide +kernel
theorem d_Tp_keptNumber_4 : decode b_Tp_keptNumber 4 = .ok (.aload_n 0, 1) := by decide +kernel
theorem d_Tp_keptNumber_5 : decode b_Tp_keptNumber 5 = .ok (.getfield 171, 3) := by decide +kernel
theorem d_Tp_keptNumber_8 : decode b_Tp_keptNumber 8 = .ok (.iconst 0, 1) := by decide +kernel
theorem d_Tp_keptNumber_9 : decode b_Tp_keptNumber 9 = .ok (.invokevirtual 175, 3) := by decide +kernel
theorem d_Tp_keptNumber_12 : decode b_Tp_keptNumber 12 = .ok (.l2i, 1) := by decide +kernel
theorem d_Tp_keptNumber_13 : decode b_Tp_keptNumber 13 = .ok (.ireturn, 1) := by decide +kernel
theorem d_Tp_goOnFrom_0 : decode b_Tp_goOnFrom 0 = .ok (.aload_n 0, 1) := by decide +kernel
theorem d_Tp_goOnFrom_1 : decode b_Tp_goOnFrom 1 = .ok (.iload_n 1, 1) := by decide +kernel
theorem d_Tp_goOnFrom_2 : decode b_Tp_goOnFrom 2 = .ok (.putfield 171, 3) := by decide +kernel
theorem d_Tp_goOnFrom_5 : decode b_Tp_goOnFrom 5 = .ok (.aload_n 0, 1) := by decide +kernel
theorem d_Tp_goOnFrom_6 : decode b_Tp_goOnFrom 6 = .ok (.getfield 24, 3) := by decide +kernel
theorem d_Tp_goOnFrom_9 : decode b_Tp_goOnFrom 9 = .ok (.iload_n 1, 1) := by decide +kernel
theorem d_Tp_goOnFrom_10 : decode b_Tp_goOnFrom 10 = .ok (.invokevirtual 179, 3) := by decide +kernel
theorem d_Tp_goOnFrom_13 : decode b_Tp_goOnFrom 13 = .ok (.return_, 1) := by decide +kernel
theorem d_Tp_writeBlocks_0 : decode b_Tp_writeBlocks 0 = .ok (.iconst 0, 1) := by decide +kernel
theorem d_Tp_writeBlocks_1 : decode b_Tp_writeBlocks 1 = .ok (.istore 4, 2) := by decide +kernel
theorem d_Tp_writeBlocks_3 : decode b_Tp_writeBlocks 3 = .ok (.bipush 16, 2) := by decide +kernel
theorem d_Tp_writeBlocks_5 : decode b_Tp_writeBlocks 5 = .ok (.istore 5, 2) := by decide +kernel
theorem d_Tp_writeBlocks_7 : decode b_Tp_writeBlocks 7 = .ok (.iload 5, 2) := by decide +kernel
theorem d_Tp_writeBlocks_9 : decode b_Tp_writeBlocks 9 = .ok (.sipush 784, 3) := by decide +kernel
theorem d_Tp_writeBlocks_12 : decode b_Tp_writeBlocks 12 = .ok (.if_icmp .ge 44, 3) := by decide +kernel
theorem d_Tp_writeBlocks_15 : decode b_Tp_writeBlocks 15 = .ok (.aload_n 0, 1) := by decide +kernel
theorem d_Tp_writeBlocks_16 : decode b_Tp_writeBlocks 16 = .ok (.getfield 24, 3) := by decide +kernel
theorem d_Tp_writeBlocks_19 : decode b_Tp_writeBlocks 19 = .ok (.iload 5, 2) := by decide +kernel
theorem d_Tp_writeBlocks_21 : decode b_Tp_writeBlocks 21 = .ok (.invokevirtual 180, 3) := by decide +kernel
theorem d_Tp_writeBlocks_24 : decode b_Tp_writeBlocks 24 = .ok (.ifCond .eq 26, 3) := by decide +kernel
theorem d_Tp_writeBlocks_27 : decode b_Tp_writeBlocks 27 = .ok (.aload_n 0, 1) := by decide +kernel
theorem d_Tp_writeBlocks_28 : decode b_Tp_writeBlocks 28 = .ok (.getfield 16, 3) := by decide +kernel
theorem d_Tp_writeBlocks_31 : decode b_Tp_writeBlocks 31 = .ok (.aload_n 0, 1) := by decide +kernel
theorem d_Tp_writeBlocks_32 : decode b_Tp_writeBlocks 32 = .ok (.getfield 12, 3) := by decide +kernel
theorem d_Tp_writeBlocks_35 : decode b_Tp_writeBlocks 35 = .ok (.iload 5, 2) := by decide +kernel
theorem d_Tp_writeBlocks_37 : decode b_Tp_writeBlocks 37 = .ok (.iload_n 1, 1) := by decide +kernel
theorem d_Tp_writeBlocks_38 : decode b_Tp_writeBlocks 38 = .ok (.lload_n 2, 1) := by decide +kernel
theorem d_Tp_writeBlocks_39 : decode b_Tp_writeBlocks 39 = .ok (.iload 4, 2) := by decide +kernel
theorem d_Tp_writeBlocks_41 : decode b_Tp_writeBlocks 41 = .ok (.invokestatic 183, 3) := by decide +kernel
theorem d_Tp_writeBlocks_44 : decode b_Tp_writeBlocks 44 = .ok (.invokevirtual 187, 3) := by decide +kernel
theorem d_Tp_writeBlocks_47 : decode b_Tp_writeBlocks 47 = .ok (.iinc 4 1, 3) := by decide +kernel
theorem d_Tp_writeBlocks_50 : decode b_Tp_writeBlocks 50 = .ok (.iinc 5 1, 3) := by decide +kernel
theorem d_Tp_writeBlocks_53 : decode b_Tp_writeBlocks 53 = .ok (.goto (-46), 3) := by decide +kernel
theorem d_Tp_writeBlocks_56 : decode b_Tp_writeBlocks 56 = .ok (.aload_n 0, 1) := by decide +kernel
theorem d_Tp_writeBlocks_57 : decode b_Tp_writeBlocks 57 = .ok (.invokevirtual 129, 3) := by decide +kernel
theorem d_Tp_writeBlocks_60 : decode b_Tp_writeBlocks 60 = .ok (.invokestatic 191, 3) := by decide +kernel
theorem d_Tp_writeBlocks_63 : decode b_Tp_writeBlocks 63 = .ok (.istore 5, 2) := by decide +kernel
theorem d_Tp_writeBlocks_65 : decode b_Tp_writeBlocks 65 = .ok (.iload 5, 2) := by decide +kernel
theorem d_Tp_writeBlocks_67 : decode b_Tp_writeBlocks 67 = .ok (.istore 6, 2) := by decide +kernel
theorem d_Tp_writeBlocks_69 : decode b_Tp_writeBlocks 69 = .ok (.iload 6, 2) := by decide +kernel
theorem d_Tp_writeBlocks_71 : decode b_Tp_writeBlocks 71 = .ok (.iload 5, 2) := by decide +kernel
theorem d_Tp_writeBlocks_73 : decode b_Tp_writeBlocks 73 = .ok (.bipush 7, 2) := by decide +kernel
theorem d_Tp_writeBlocks_75 : decode b_Tp_writeBlocks 75 = .ok (.iadd, 1) := by decide +kernel
theorem d_Tp_writeBlocks_76 : decode b_Tp_writeBlocks 76 = .ok (.if_icmp .ge 32, 3) := by decide +kernel
theorem d_Tp_writeBlocks_79 : decode b_Tp_writeBlocks 79 = .ok (.aload_n 0, 1) := by decide +kernel
theorem d_Tp_writeBlocks_80 : decode b_Tp_writeBlocks 80 = .ok (.getfield 16, 3) := by decide +kernel
theorem d_Tp_writeBlocks_83 : decode b_Tp_writeBlocks 83 = .ok (.aload_n 0, 1) := by decide +kernel
theorem d_Tp_writeBlocks_84 : decode b_Tp_writeBlocks 84 = .ok (.getfield 12, 3) := by decide +kernel
theorem d_Tp_writeBlocks_87 : decode b_Tp_writeBlocks 87 = .ok (.iload 6, 2) := by decide +kernel
theorem d_Tp_writeBlocks_89 : decode b_Tp_writeBlocks 89 = .ok (.iload_n 1, 1) := by decide +kernel
theorem d_Tp_writeBlocks_90 : decode b_Tp_writeBlocks 90 = .ok (.lload_n 2, 1) := by decide +kernel
theorem d_Tp_writeBlocks_91 : decode b_Tp_writeBlocks 91 = .ok (.iload 4, 2) := by decide +kernel
theorem d_Tp_writeBlocks_93 : decode b_Tp_writeBlocks 93 = .ok (.invokestatic 183, 3) := by decide +kernel
theorem d_Tp_writeBlocks_96 : decode b_Tp_writeBlocks 96 = .ok (.invokevirtual 187, 3) := by decide +kernel
theorem d_Tp_writeBlocks_99 : decode b_Tp_writeBlocks 99 = .ok (.iinc 4 1, 3) := by decide +kernel
theorem d_Tp_writeBlocks_102 : decode b_Tp_writeBlocks 102 = .ok (.iinc 6 1, 3) := by decide +kernel
theorem d_Tp_writeBlocks_105 : decode b_Tp_writeBlocks 105 = .ok (.goto (-36), 3) := by decide +kernel
theorem d_Tp_writeBlocks_108 : decode b_Tp_writeBlocks 108 = .ok (.return_, 1) := by decide +kernel
theorem d_Tp_writeOtherHead_0 : decode b_Tp_writeOtherHead 0 = .ok (.aload_n 0, 1) := by decide +kernel
theorem d_Tp_writeOtherHead_1 : decode b_Tp_writeOtherHead 1 = .ok (.getfield 12, 3) := by decide +kernel
theorem d_Tp_writeOtherHead_4 : decode b_Tp_writeOtherHead 4 = .ok (.aload_n 0, 1) := by decide +kernel
theorem d_Tp_writeOtherHead_5 : decode b_Tp_writeOtherHead 5 = .ok (.invokevirtual 129, 3) := by decide +kernel
theorem d_Tp_writeOtherHead_8 : decode b_Tp_writeOtherHead 8 = .ok (.iconst 0, 1) := by decide +kernel
theorem d_Tp_writeOtherHead_9 : decode b_Tp_writeOtherHead 9 = .ok (.aload_n 0, 1) := by decide +kernel
theorem d_Tp_writeOtherHead_10 : decode b_Tp_writeOtherHead 10 = .ok (.invokevirtual 144, 3) := by decide +kernel
theorem d_Tp_writeOtherHead_13 : decode b_Tp_writeOtherHead 13 = .ok (.i2l, 1) := by decide +kernel
theorem d_Tp_writeOtherHead_14 : decode b_Tp_writeOtherHead 14 = .ok (.lconst 1, 1) := by decide +kernel
theorem d_Tp_writeOtherHead_15 : decode b_Tp_writeOtherHead 15 = .ok (.ladd, 1) := by decide +kernel
theorem d_Tp_writeOtherHead_16 : decode b_Tp_writeOtherHead 16 = .ok (.invokevirtual 164, 3) := by decide +kernel
theorem d_Tp_writeOtherHead_19 : decode b_Tp_writeOtherHead 19 = .ok (.aload_n 0, 1) := by decide +kernel
theorem d_Tp_writeOtherHead_20 : decode b_Tp_writeOtherHead 20 = .ok (.getfield 16, 3) := by decide +kernel
theorem d_Tp_writeOtherHead_23 : decode b_Tp_writeOtherHead 23 = .ok (.aload_n 0, 1) := by decide +kernel
theorem d_Tp_writeOtherHead_24 : decode b_Tp_writeOtherHead 24 = .ok (.getfield 12, 3) := by decide +kernel
theorem d_Tp_writeOtherHead_27 : decode b_Tp_writeOtherHead 27 = .ok (.aload_n 0, 1) := by decide +kernel
theorem d_Tp_writeOtherHead_28 : decode b_Tp_writeOtherHead 28 = .ok (.invokevirtual 129, 3) := by decide +kernel
theorem d_Tp_writeOtherHead_31 : decode b_Tp_writeOtherHead 31 = .ok (.iload_n 1, 1) := by decide +kernel
theorem d_Tp_writeOtherHead_32 : decode b_Tp_writeOtherHead 32 = .ok (.lload_n 2, 1) := by decide +kernel
theorem d_Tp_writeOtherHead_33 : decode b_Tp_writeOtherHead 33 = .ok (.iconst 0, 1) := by decide +kernel
theorem d_Tp_writeOtherHead_34 : decode b_Tp_writeOtherHead 34 = .ok (.invokestatic 183, 3) := by decide +kernel
theorem d_Tp_writeOtherHead_37 : decode b_Tp_writeOtherHead 37 = .ok (.invokevirtual 187, 3) := by decide +kernel
theorem d_Tp_writeOtherHead_40 : decode b_Tp_writeOtherHead 40 = .ok (.return_, 1) := by decide +kernel
theorem d_Tp_partDown_0 : decode b_Tp_partDown 0 = .ok (.iload_n 0, 1) := by decide +kernel
theorem d_Tp_partDown_1 : decode b_Tp_partDown 1 = .ok (.ifCond .ne 5, 3) := by decide +kernel
theorem d_Tp_partDown_4 : decode b_Tp_partDown 4 = .ok (.iconst 1, 1) := by decide +kernel
theorem d_Tp_partDown_5 : decode b_Tp_partDown 5 = .ok (.ireturn, 1) := by decide +kernel
theorem d_Tp_partDown_6 : decode b_Tp_partDown 6 = .ok (.iload_n 3, 1) := by decide +kernel
theorem d_Tp_partDown_7 : decode b_Tp_partDown 7 = .ok (.bipush 32, 2) := by decide +kernel
theorem d_Tp_partDown_9 : decode b_Tp_partDown 9 = .ok (.if_icmp .ge 14, 3) := by decide +kernel
theorem d_Tp_partDown_12 : decode b_Tp_partDown 12 = .ok (.lload_n 1, 1) := by decide +kernel
theorem d_Tp_partDown_13 : decode b_Tp_partDown 13 = .ok (.iconst 2, 1) := by decide +kernel
theorem d_Tp_partDown_14 : decode b_Tp_partDown 14 = .ok (.iload_n 3, 1) := by decide +kernel
theorem d_Tp_partDown_15 : decode b_Tp_partDown 15 = .ok (.imul, 1) := by decide +kernel
theorem d_Tp_partDown_16 : decode b_Tp_partDown 16 = .ok (.lushr, 1) := by decide +kernel
theorem d_Tp_partDown_17 : decode b_Tp_partDown 17 = .ok (.l2i, 1) := by decide +kernel
theorem d_Tp_partDown_18 : decode b_Tp_partDown 18 = .ok (.iconst 3, 1) := by decide +kernel
theorem d_Tp_partDown_19 : decode b_Tp_partDown 19 = .ok (.iand, 1) := by decide +kernel
theorem d_Tp_partDown_20 : decode b_Tp_partDown 20 = .ok (.goto 4, 3) := by decide +kernel
theorem d_Tp_partDown_23 : decode b_Tp_partDown 23 = .ok (.iconst 0, 1) := by decide +kernel
theorem d_Tp_partDown_24 : decode b_Tp_partDown 24 = .ok (.ireturn, 1) := by decide +kernel
