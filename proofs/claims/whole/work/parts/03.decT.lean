theorem dT_init_0 : decode bT_init 0 = .ok (.aload_n 0, 1) := by decide +kernel
theorem dT_init_1 : decode bT_init 1 = .ok (.invokespecial 1, 3) := by decide +kernel
theorem dT_init_4 : decode bT_init 4 = .ok (.aload_n 0, 1) := by decide +kernel
theorem dT_init_5 : decode bT_init 5 = .ok (.bipush 16, 2) := by decide +kernel
theorem dT_init_7 : decode bT_init 7 = .ok (.newarray .int, 2) := by decide +kernel
theorem dT_init_9 : decode bT_init 9 = .ok (.putfield 9, 3) := by decide +kernel
theorem dT_init_12 : decode bT_init 12 = .ok (.aload_n 0, 1) := by decide +kernel
theorem dT_init_13 : decode bT_init 13 = .ok (.bipush 16, 2) := by decide +kernel
theorem dT_init_15 : decode bT_init 15 = .ok (.newarray .int, 2) := by decide +kernel
theorem dT_init_17 : decode bT_init 17 = .ok (.putfield 13, 3) := by decide +kernel
theorem dT_init_20 : decode bT_init 20 = .ok (.aload_n 0, 1) := by decide +kernel
theorem dT_init_21 : decode bT_init 21 = .ok (.bipush 16, 2) := by decide +kernel
theorem dT_init_23 : decode bT_init 23 = .ok (.iconst 4, 1) := by decide +kernel
theorem dT_init_24 : decode bT_init 24 = .ok (.multianewarray 16 2, 4) := by decide +kernel
theorem dT_init_28 : decode bT_init 28 = .ok (.putfield 18, 3) := by decide +kernel
theorem dT_init_31 : decode bT_init 31 = .ok (.aload_n 0, 1) := by decide +kernel
theorem dT_init_32 : decode bT_init 32 = .ok (.bipush 16, 2) := by decide +kernel
theorem dT_init_34 : decode bT_init 34 = .ok (.newarray .int, 2) := by decide +kernel
theorem dT_init_36 : decode bT_init 36 = .ok (.putfield 21, 3) := by decide +kernel
theorem dT_init_39 : decode bT_init 39 = .ok (.aload_n 0, 1) := by decide +kernel
theorem dT_init_40 : decode bT_init 40 = .ok (.bipush 16, 2) := by decide +kernel
theorem dT_init_42 : decode bT_init 42 = .ok (.newarray .int, 2) := by decide +kernel
theorem dT_init_44 : decode bT_init 44 = .ok (.putfield 24, 3) := by decide +kernel
theorem dT_init_47 : decode bT_init 47 = .ok (.aload_n 0, 1) := by decide +kernel
theorem dT_init_48 : decode bT_init 48 = .ok (.bipush 16, 2) := by decide +kernel
theorem dT_init_50 : decode bT_init 50 = .ok (.newarray .boolean, 2) := by decide +kernel
theorem dT_init_52 : decode bT_init 52 = .ok (.putfield 27, 3) := by decide +kernel
theorem dT_init_55 : decode bT_init 55 = .ok (.aload_n 0, 1) := by decide +kernel
theorem dT_init_56 : decode bT_init 56 = .ok (.bipush 16, 2) := by decide +kernel
theorem dT_init_58 : decode bT_init 58 = .ok (.newarray .int, 2) := by decide +kernel
theorem dT_init_60 : decode bT_init 60 = .ok (.putfield 31, 3) := by decide +kernel
theorem dT_init_63 : decode bT_init 63 = .ok (.aload_n 0, 1) := by decide +kernel
theorem dT_init_64 : decode bT_init 64 = .ok (.iconst 0, 1) := by decide +kernel
theorem dT_init_65 : decode bT_init 65 = .ok (.putfield 34, 3) := by decide +kernel
theorem dT_init_68 : decode bT_init 68 = .ok (.aload_n 0, 1) := by decide +kernel
theorem dT_init_69 : decode bT_init 69 = .ok (.bipush 16, 2) := by decide +kernel
theorem dT_init_71 : decode bT_init 71 = .ok (.newarray .int, 2) := by decide +kernel
theorem dT_init_73 : decode bT_init 73 = .ok (.putfield 38, 3) := by decide +kernel
theorem dT_init_76 : decode bT_init 76 = .ok (.aload_n 0, 1) := by decide +kernel
theorem dT_init_77 : decode bT_init 77 = .ok (.iconst 0, 1) := by decide +kernel
theorem dT_init_78 : decode bT_init 78 = .ok (.putfield 41, 3) := by decide +kernel
theorem dT_init_81 : decode bT_init 81 = .ok (.aload_n 0, 1) := by decide +kernel
theorem dT_init_82 : decode bT_init 82 = .ok (.iconst 4, 1) := by decide +kernel
theorem dT_init_83 : decode bT_init 83 = .ok (.bipush 24, 2) := by decide +kernel
theorem dT_init_85 : decode bT_init 85 = .ok (.iload_n 1, 1) := by decide +kernel
theorem dT_init_86 : decode bT_init 86 = .ok (.invokestatic 44, 3) := by decide +kernel
theorem dT_init_89 : decode bT_init 89 = .ok (.invokestatic 50, 3) := by decide +kernel
theorem dT_init_92 : decode bT_init 92 = .ok (.putfield 53, 3) := by decide +kernel
theorem dT_init_95 : decode bT_init 95 = .ok (.aload_n 0, 1) := by decide +kernel
theorem dT_init_96 : decode bT_init 96 = .ok (.new 56, 3) := by decide +kernel
theorem dT_init_99 : decode bT_init 99 = .ok (.dup, 1) := by decide +kernel
theorem dT_init_100 : decode bT_init 100 = .ok (.iconst 4, 1) := by decide +kernel
theorem dT_init_101 : decode bT_init 101 = .ok (.bipush 20, 2) := by decide +kernel
theorem dT_init_103 : decode bT_init 103 = .ok (.iload_n 2, 1) := by decide +kernel
theorem dT_init_104 : decode bT_init 104 = .ok (.invokestatic 44, 3) := by decide +kernel
theorem dT_init_107 : decode bT_init 107 = .ok (.invokestatic 50, 3) := by decide +kernel
theorem dT_init_110 : decode bT_init 110 = .ok (.invokespecial 58, 3) := by decide +kernel
theorem dT_init_113 : decode bT_init 113 = .ok (.putfield 61, 3) := by decide +kernel
theorem dT_init_116 : decode bT_init 116 = .ok (.return_, 1) := by decide +kernel
theorem dT_create_0 : decode bT_create 0 = .ok (.iload_n 1, 1) := by decide +kernel
theorem dT_create_1 : decode bT_create 1 = .ok (.invokestatic 65, 3) := by decide +kernel
theorem dT_create_4 : decode bT_create 4 = .ok (.ifCond .eq 13, 3) := by decide +kernel
theorem dT_create_7 : decode bT_create 7 = .ok (.iload_n 2, 1) := by decide +kernel
theorem dT_create_8 : decode bT_create 8 = .ok (.iconst 1, 1) := by decide +kernel
theorem dT_create_9 : decode bT_create 9 = .ok (.if_icmp .lt 8, 3) := by decide +kernel
theorem dT_create_12 : decode bT_create 12 = .ok (.iload_n 2, 1) := by decide +kernel
theorem dT_create_13 : decode bT_create 13 = .ok (.iconst 4, 1) := by decide +kernel
theorem dT_create_14 : decode bT_create 14 = .ok (.if_icmp .le 5, 3) := by decide +kernel
theorem dT_create_17 : decode bT_create 17 = .ok (.iconst (-1), 1) := by decide +kernel
theorem dT_create_18 : decode bT_create 18 = .ok (.ireturn, 1) := by decide +kernel
theorem dT_create_19 : decode bT_create 19 = .ok (.aload_n 0, 1) := by decide +kernel
theorem dT_create_20 : decode bT_create 20 = .ok (.getfield 9, 3) := by decide +kernel
theorem dT_create_23 : decode bT_create 23 = .ok (.iload_n 1, 1) := by decide +kernel
theorem dT_create_24 : decode bT_create 24 = .ok (.iaload, 1) := by decide +kernel
theorem dT_create_25 : decode bT_create 25 = .ok (.ifCond .eq 5, 3) := by decide +kernel
theorem dT_create_28 : decode bT_create 28 = .ok (.iconst (-1), 1) := by decide +kernel
theorem dT_create_29 : decode bT_create 29 = .ok (.ireturn, 1) := by decide +kernel
theorem dT_create_30 : decode bT_create 30 = .ok (.aload_n 0, 1) := by decide +kernel
theorem dT_create_31 : decode bT_create 31 = .ok (.iload_n 2, 1) := by decide +kernel
theorem dT_create_32 : decode bT_create 32 = .ok (.invokevirtual 69, 3) := by decide +kernel
theorem dT_create_35 : decode bT_create 35 = .ok (.ifCond .ne 6, 3) := by decide +kernel
theorem dT_create_38 : decode bT_create 38 = .ok (.bipush (-2), 2) := by decide +kernel
theorem dT_create_40 : decode bT_create 40 = .ok (.ireturn, 1) := by decide +kernel
theorem dT_create_41 : decode bT_create 41 = .ok (.aload_n 0, 1) := by decide +kernel
theorem dT_create_42 : decode bT_create 42 = .ok (.getfield 9, 3) := by decide +kernel
theorem dT_create_45 : decode bT_create 45 = .ok (.iload_n 1, 1) := by decide +kernel
theorem dT_create_46 : decode bT_create 46 = .ok (.iconst 1, 1) := by decide +kernel
theorem dT_create_47 : decode bT_create 47 = .ok (.iastore, 1) := by decide +kernel
theorem dT_create_48 : decode bT_create 48 = .ok (.aload_n 0, 1) := by decide +kernel
theorem dT_create_49 : decode bT_create 49 = .ok (.getfield 13, 3) := by decide +kernel
theorem dT_create_52 : decode bT_create 52 = .ok (.iload_n 1, 1) := by decide +kernel
theorem dT_create_53 : decode bT_create 53 = .ok (.iload_n 2, 1) := by decide +kernel
theorem dT_create_54 : decode bT_create 54 = .ok (.iastore, 1) := by decide +kernel
theorem dT_create_55 : decode bT_create 55 = .ok (.iconst 0, 1) := by decide +kernel
theorem dT_create_56 : decode bT_create 56 = .ok (.istore_n 3, 1) := by decide +kernel
theorem dT_create_57 : decode bT_create 57 = .ok (.iload_n 3, 1) := by decide +kernel
theorem dT_create_58 : decode bT_create 58 = .ok (.iconst 4, 1) := by decide +kernel
theorem dT_create_59 : decode bT_create 59 = .ok (.if_icmp .ge 18, 3) := by decide +kernel
theorem dT_create_62 : decode bT_create 62 = .ok (.aload_n 0, 1) := by decide +kernel
theorem dT_create_63 : decode bT_create 63 = .ok (.getfield 18, 3) := by decide +kernel
theorem dT_create_66 : decode bT_create 66 = .ok (.iload_n 1, 1) := by decide +kernel
theorem dT_create_67 : decode bT_create 67 = .ok (.aaload, 1) := by decide +kernel
theorem dT_create_68 : decode bT_create 68 = .ok (.iload_n 3, 1) := by decide +kernel
theorem dT_create_69 : decode bT_create 69 = .ok (.iconst 0, 1) := by decide +kernel
theorem dT_create_70 : decode bT_create 70 = .ok (.iastore, 1) := by decide +kernel
theorem dT_create_71 : decode bT_create 71 = .ok (.iinc 3 1, 3) := by decide +kernel
theorem dT_create_74 : decode bT_create 74 = .ok (.goto (-17), 3) := by decide +kernel
theorem dT_create_77 : decode bT_create 77 = .ok (.aload_n 0, 1) := by decide +kernel
theorem dT_create_78 : decode bT_create 78 = .ok (.iload_n 1, 1) := by decide +kernel
theorem dT_create_79 : decode bT_create 79 = .ok (.invokevirtual 72, 3) := by decide +kernel
theorem dT_create_82 : decode bT_create 82 = .ok (.iconst 0, 1) := by decide +kernel
theorem dT_create_83 : decode bT_create 83 = .ok (.ireturn, 1) := by decide +kernel
theorem dT_write_0 : decode bT_write 0 = .ok (.aload_n 0, 1) := by decide +kernel
theorem dT_write_1 : decode bT_write 1 = .ok (.iload_n 1, 1) := by decide +kernel
theorem dT_write_2 : decode bT_write 2 = .ok (.iload_n 2, 1) := by decide +kernel
theorem dT_write_3 : decode bT_write 3 = .ok (.invokevirtual 75, 3) := by decide +kernel
theorem dT_write_6 : decode bT_write 6 = .ok (.ifCond .ne 5, 3) := by decide +kernel
theorem dT_write_9 : decode bT_write 9 = .ok (.iconst (-1), 1) := by decide +kernel
theorem dT_write_10 : decode bT_write 10 = .ok (.ireturn, 1) := by decide +kernel
theorem dT_write_11 : decode bT_write 11 = .ok (.aload_n 0, 1) := by decide +kernel
theorem dT_write_12 : decode bT_write 12 = .ok (.getfield 9, 3) := by decide +kernel
theorem dT_write_15 : decode bT_write 15 = .ok (.iload_n 1, 1) := by decide +kernel
theorem dT_write_16 : decode bT_write 16 = .ok (.iaload, 1) := by decide +kernel
theorem dT_write_17 : decode bT_write 17 = .ok (.iconst 4, 1) := by decide +kernel
theorem dT_write_18 : decode bT_write 18 = .ok (.if_icmp .ne 6, 3) := by decide +kernel
theorem dT_write_21 : decode bT_write 21 = .ok (.bipush (-3), 2) := by decide +kernel
theorem dT_write_23 : decode bT_write 23 = .ok (.ireturn, 1) := by decide +kernel
theorem dT_write_24 : decode bT_write 24 = .ok (.aload_n 0, 1) := by decide +kernel
theorem dT_write_25 : decode bT_write 25 = .ok (.iload_n 1, 1) := by decide +kernel
theorem dT_write_26 : decode bT_write 26 = .ok (.invokevirtual 79, 3) := by decide +kernel
theorem dT_write_29 : decode bT_write 29 = .ok (.ifCond .ne 6, 3) := by decide +kernel
theorem dT_write_32 : decode bT_write 32 = .ok (.bipush (-2), 2) := by decide +kernel
theorem dT_write_34 : decode bT_write 34 = .ok (.ireturn, 1) := by decide +kernel
theorem dT_write_35 : decode bT_write 35 = .ok (.aload_n 0, 1) := by decide +kernel
theorem dT_write_36 : decode bT_write 36 = .ok (.getfield 18, 3) := by decide +kernel
theorem dT_write_39 : decode bT_write 39 = .ok (.iload_n 1, 1) := by decide +kernel
theorem dT_write_40 : decode bT_write 40 = .ok (.aaload, 1) := by decide +kernel
theorem dT_write_41 : decode bT_write 41 = .ok (.iload_n 2, 1) := by decide +kernel
theorem dT_write_42 : decode bT_write 42 = .ok (.iload_n 3, 1) := by decide +kernel
theorem dT_write_43 : decode bT_write 43 = .ok (.iastore, 1) := by decide +kernel
theorem dT_write_44 : decode bT_write 44 = .ok (.aload_n 0, 1) := by decide +kernel
theorem dT_write_45 : decode bT_write 45 = .ok (.getfield 9, 3) := by decide +kernel
theorem dT_write_48 : decode bT_write 48 = .ok (.iload_n 1, 1) := by decide +kernel
theorem dT_write_49 : decode bT_write 49 = .ok (.iconst 1, 1) := by decide +kernel
theorem dT_write_50 : decode bT_write 50 = .ok (.iastore, 1) := by decide +kernel
theorem dT_write_51 : decode bT_write 51 = .ok (.aload_n 0, 1) := by decide +kernel
theorem dT_write_52 : decode bT_write 52 = .ok (.iload_n 1, 1) := by decide +kernel
theorem dT_write_53 : decode bT_write 53 = .ok (.invokevirtual 72, 3) := by decide +kernel
theorem dT_write_56 : decode bT_write 56 = .ok (.iconst 0, 1) := by decide +kernel
theorem dT_write_57 : decode bT_write 57 = .ok (.ireturn, 1) := by decide +kernel
theorem dT_read_0 : decode bT_read 0 = .ok (.aload_n 0, 1) := by decide +kernel
theorem dT_read_1 : decode bT_read 1 = .ok (.iload_n 1, 1) := by decide +kernel
theorem dT_read_2 : decode bT_read 2 = .ok (.iload_n 2, 1) := by decide +kernel
theorem dT_read_3 : decode bT_read 3 = .ok (.invokevirtual 75, 3) := by decide +kernel
theorem dT_read_6 : decode bT_read 6 = .ok (.ifCond .ne 7, 3) := by decide +kernel
theorem dT_read_9 : decode bT_read 9 = .ok (.ldc2_w 82, 3) := by decide +kernel
theorem dT_read_12 : decode bT_read 12 = .ok (.lreturn, 1) := by decide +kernel
theorem dT_read_13 : decode bT_read 13 = .ok (.aload_n 0, 1) := by decide +kernel
theorem dT_read_14 : decode bT_read 14 = .ok (.getfield 9, 3) := by decide +kernel
theorem dT_read_17 : decode bT_read 17 = .ok (.iload_n 1, 1) := by decide +kernel
theorem dT_read_18 : decode bT_read 18 = .ok (.iaload, 1) := by decide +kernel
theorem dT_read_19 : decode bT_read 19 = .ok (.iconst 4, 1) := by decide +kernel
theorem dT_read_20 : decode bT_read 20 = .ok (.if_icmp .ne 7, 3) := by decide +kernel
theorem dT_read_23 : decode bT_read 23 = .ok (.ldc2_w 84, 3) := by decide +kernel
theorem dT_read_26 : decode bT_read 26 = .ok (.lreturn, 1) := by decide +kernel
theorem dT_read_27 : decode bT_read 27 = .ok (.aload_n 0, 1) := by decide +kernel
theorem dT_read_28 : decode bT_read 28 = .ok (.iload_n 1, 1) := by decide +kernel
theorem dT_read_29 : decode bT_read 29 = .ok (.invokevirtual 79, 3) := by decide +kernel
theorem dT_read_32 : decode bT_read 32 = .ok (.ifCond .ne 7, 3) := by decide +kernel
theorem dT_read_35 : decode bT_read 35 = .ok (.ldc2_w 86, 3) := by decide +kernel
theorem dT_read_38 : decode bT_read 38 = .ok (.lreturn, 1) := by decide +kernel
theorem dT_read_39 : decode bT_read 39 = .ok (.aload_n 0, 1) := by decide +kernel
theorem dT_read_40 : decode bT_read 40 = .ok (.iload_n 1, 1) := by decide +kernel
theorem dT_read_41 : decode bT_read 41 = .ok (.invokevirtual 72, 3) := by decide +kernel
theorem dT_read_44 : decode bT_read 44 = .ok (.aload_n 0, 1) := by decide +kernel
theorem dT_read_45 : decode bT_read 45 = .ok (.getfield 18, 3) := by decide +kernel
theorem dT_read_48 : decode bT_read 48 = .ok (.iload_n 1, 1) := by decide +kernel
theorem dT_read_49 : decode bT_read 49 = .ok (.aaload, 1) := by decide +kernel
theorem dT_read_50 : decode bT_read 50 = .ok (.iload_n 2, 1) := by decide +kernel
theorem dT_read_51 : decode bT_read 51 = .ok (.iaload, 1) := by decide +kernel
theorem dT_read_52 : decode bT_read 52 = .ok (.i2l, 1) := by decide +kernel
theorem dT_read_53 : decode bT_read 53 = .ok (.lreturn, 1) := by decide +kernel
theorem dT_remove_0 : decode bT_remove 0 = .ok (.aload_n 0, 1) := by decide +kernel
theorem dT_remove_1 : decode bT_remove 1 = .ok (.iload_n 1, 1) := by decide +kernel
theorem dT_remove_2 : decode bT_remove 2 = .ok (.invokevirtual 88, 3) := by decide +kernel
theorem dT_remove_5 : decode bT_remove 5 = .ok (.ifCond .ne 5, 3) := by decide +kernel
theorem dT_remove_8 : decode bT_remove 8 = .ok (.iconst (-1), 1) := by decide +kernel
theorem dT_remove_9 : decode bT_remove 9 = .ok (.ireturn, 1) := by decide +kernel
theorem dT_remove_10 : decode bT_remove 10 = .ok (.aload_n 0, 1) := by decide +kernel
theorem dT_remove_11 : decode bT_remove 11 = .ok (.getfield 9, 3) := by decide +kernel
theorem dT_remove_14 : decode bT_remove 14 = .ok (.iload_n 1, 1) := by decide +kernel
theorem dT_remove_15 : decode bT_remove 15 = .ok (.iconst 0, 1) := by decide +kernel
theorem dT_remove_16 : decode bT_remove 16 = .ok (.iastore, 1) := by decide +kernel
theorem dT_remove_17 : decode bT_remove 17 = .ok (.aload_n 0, 1) := by decide +kernel
theorem dT_remove_18 : decode bT_remove 18 = .ok (.getfield 27, 3) := by decide +kernel
theorem dT_remove_21 : decode bT_remove 21 = .ok (.iload_n 1, 1) := by decide +kernel
theorem dT_remove_22 : decode bT_remove 22 = .ok (.iconst 0, 1) := by decide +kernel
theorem dT_remove_23 : decode bT_remove 23 = .ok (.bastore, 1) := by decide +kernel
theorem dT_remove_24 : decode bT_remove 24 = .ok (.iconst 0, 1) := by decide +kernel
theorem dT_remove_25 : decode bT_remove 25 = .ok (.ireturn, 1) := by decide +kernel
theorem dT_backUp_0 : decode bT_backUp 0 = .ok (.aload_n 0, 1) := by decide +kernel
theorem dT_backUp_1 : decode bT_backUp 1 = .ok (.iconst 1, 1) := by decide +kernel
theorem dT_backUp_2 : decode bT_backUp 2 = .ok (.invokevirtual 91, 3) := by decide +kernel
theorem dT_backUp_5 : decode bT_backUp 5 = .ok (.istore_n 1, 1) := by decide +kernel
theorem dT_backUp_6 : decode bT_backUp 6 = .ok (.iload_n 1, 1) := by decide +kernel
theorem dT_backUp_7 : decode bT_backUp 7 = .ok (.iconst (-1), 1) := by decide +kernel
theorem dT_backUp_8 : decode bT_backUp 8 = .ok (.if_icmp .ne 5, 3) := by decide +kernel
theorem dT_backUp_11 : decode bT_backUp 11 = .ok (.iconst (-1), 1) := by decide +kernel
theorem dT_backUp_12 : decode bT_backUp 12 = .ok (.ireturn, 1) := by decide +kernel
theorem dT_backUp_13 : decode bT_backUp 13 = .ok (.aload_n 0, 1) := by decide +kernel
theorem dT_backUp_14 : decode bT_backUp 14 = .ok (.getfield 61, 3) := by decide +kernel
theorem dT_backUp_17 : decode bT_backUp 17 = .ok (.aload_n 0, 1) := by decide +kernel
theorem dT_backUp_18 : decode bT_backUp 18 = .ok (.getfield 13, 3) := by decide +kernel
theorem dT_backUp_21 : decode bT_backUp 21 = .ok (.iload_n 1, 1) := by decide +kernel
theorem dT_backUp_22 : decode bT_backUp 22 = .ok (.iaload, 1) := by decide +kernel
theorem dT_backUp_23 : decode bT_backUp 23 = .ok (.iconst (-1), 1) := by decide +kernel
theorem dT_backUp_24 : decode bT_backUp 24 = .ok (.invokevirtual 95, 3) := by decide +kernel
theorem dT_backUp_27 : decode bT_backUp 27 = .ok (.istore_n 2, 1) := by decide +kernel
theorem dT_backUp_28 : decode bT_backUp 28 = .ok (.iload_n 2, 1) := by decide +kernel
theorem dT_backUp_29 : decode bT_backUp 29 = .ok (.iconst (-1), 1) := by decide +kernel
theorem dT_backUp_30 : decode bT_backUp 30 = .ok (.if_icmp .ne 6, 3) := by decide +kernel
theorem dT_backUp_33 : decode bT_backUp 33 = .ok (.bipush (-2), 2) := by decide +kernel
theorem dT_backUp_35 : decode bT_backUp 35 = .ok (.ireturn, 1) := by decide +kernel
theorem dT_backUp_36 : decode bT_backUp 36 = .ok (.aload_n 0, 1) := by decide +kernel
theorem dT_backUp_37 : decode bT_backUp 37 = .ok (.iload_n 1, 1) := by decide +kernel
theorem dT_backUp_38 : decode bT_backUp 38 = .ok (.iload_n 2, 1) := by decide +kernel
theorem dT_backUp_39 : decode bT_backUp 39 = .ok (.invokevirtual 98, 3) := by decide +kernel
theorem dT_backUp_42 : decode bT_backUp 42 = .ok (.aload_n 0, 1) := by decide +kernel
theorem dT_backUp_43 : decode bT_backUp 43 = .ok (.getfield 9, 3) := by decide +kernel
theorem dT_backUp_46 : decode bT_backUp 46 = .ok (.iload_n 1, 1) := by decide +kernel
theorem dT_backUp_47 : decode bT_backUp 47 = .ok (.iconst 2, 1) := by decide +kernel
theorem dT_backUp_48 : decode bT_backUp 48 = .ok (.iastore, 1) := by decide +kernel
theorem dT_backUp_49 : decode bT_backUp 49 = .ok (.iload_n 1, 1) := by decide +kernel
theorem dT_backUp_50 : decode bT_backUp 50 = .ok (.ireturn, 1) := by decide +kernel
theorem dT_tidy_0 : decode bT_tidy 0 = .ok (.iload_n 1, 1) := by decide +kernel
theorem dT_tidy_1 : decode bT_tidy 1 = .ok (.invokestatic 102, 3) := by decide +kernel
theorem dT_tidy_4 : decode bT_tidy 4 = .ok (.ifCond .eq 15, 3) := by decide +kernel
theorem dT_tidy_7 : decode bT_tidy 7 = .ok (.iload_n 2, 1) := by decide +kernel
theorem dT_tidy_8 : decode bT_tidy 8 = .ok (.invokestatic 102, 3) := by decide +kernel
theorem dT_tidy_11 : decode bT_tidy 11 = .ok (.ifCond .eq 8, 3) := by decide +kernel
theorem dT_tidy_14 : decode bT_tidy 14 = .ok (.iload_n 2, 1) := by decide +kernel
theorem dT_tidy_15 : decode bT_tidy 15 = .ok (.iload_n 1, 1) := by decide +kernel
theorem dT_tidy_16 : decode bT_tidy 16 = .ok (.if_icmp .le 5, 3) := by decide +kernel
theorem dT_tidy_19 : decode bT_tidy 19 = .ok (.iconst (-1), 1) := by decide +kernel
theorem dT_tidy_20 : decode bT_tidy 20 = .ok (.ireturn, 1) := by decide +kernel
theorem dT_tidy_21 : decode bT_tidy 21 = .ok (.aload_n 0, 1) := by decide +kernel
theorem dT_tidy_22 : decode bT_tidy 22 = .ok (.invokevirtual 105, 3) := by decide +kernel
theorem dT_tidy_25 : decode bT_tidy 25 = .ok (.iload_n 1, 1) := by decide +kernel
theorem dT_tidy_26 : decode bT_tidy 26 = .ok (.if_icmp .gt 5, 3) := by decide +kernel
theorem dT_tidy_29 : decode bT_tidy 29 = .ok (.iconst 0, 1) := by decide +kernel
theorem dT_tidy_30 : decode bT_tidy 30 = .ok (.ireturn, 1) := by decide +kernel
theorem dT_tidy_31 : decode bT_tidy 31 = .ok (.iconst 0, 1) := by decide +kernel
theorem dT_tidy_32 : decode bT_tidy 32 = .ok (.istore_n 3, 1) := by decide +kernel
theorem dT_tidy_33 : decode bT_tidy 33 = .ok (.iload_n 3, 1) := by decide +kernel
theorem dT_tidy_34 : decode bT_tidy 34 = .ok (.bipush 16, 2) := by decide +kernel
theorem dT_tidy_36 : decode bT_tidy 36 = .ok (.if_icmp .ge 24, 3) := by decide +kernel
theorem dT_tidy_39 : decode bT_tidy 39 = .ok (.aload_n 0, 1) := by decide +kernel
theorem dT_tidy_40 : decode bT_tidy 40 = .ok (.invokevirtual 105, 3) := by decide +kernel
theorem dT_tidy_43 : decode bT_tidy 43 = .ok (.iload_n 2, 1) := by decide +kernel
theorem dT_tidy_44 : decode bT_tidy 44 = .ok (.if_icmp .le 16, 3) := by decide +kernel
theorem dT_tidy_47 : decode bT_tidy 47 = .ok (.aload_n 0, 1) := by decide +kernel
theorem dT_tidy_48 : decode bT_tidy 48 = .ok (.invokevirtual 109, 3) := by decide +kernel
theorem dT_tidy_51 : decode bT_tidy 51 = .ok (.ifCond .eq 9, 3) := by decide +kernel
theorem dT_tidy_54 : decode bT_tidy 54 = .ok (.iinc 3 1, 3) := by decide +kernel
theorem dT_tidy_57 : decode bT_tidy 57 = .ok (.goto (-24), 3) := by decide +kernel
theorem dT_tidy_60 : decode bT_tidy 60 = .ok (.iload_n 3, 1) := by decide +kernel
theorem dT_tidy_61 : decode bT_tidy 61 = .ok (.ireturn, 1) := by decide +kernel
theorem dT_ask_0 : decode bT_ask 0 = .ok (.aload_n 0, 1) := by decide +kernel
theorem dT_ask_1 : decode bT_ask 1 = .ok (.iload_n 1, 1) := by decide +kernel
theorem dT_ask_2 : decode bT_ask 2 = .ok (.invokevirtual 88, 3) := by decide +kernel
theorem dT_ask_5 : decode bT_ask 5 = .ok (.ifCond .ne 5, 3) := by decide +kernel
theorem dT_ask_8 : decode bT_ask 8 = .ok (.iconst (-1), 1) := by decide +kernel
theorem dT_ask_9 : decode bT_ask 9 = .ok (.ireturn, 1) := by decide +kernel
theorem dT_ask_10 : decode bT_ask 10 = .ok (.aload_n 0, 1) := by decide +kernel
theorem dT_ask_11 : decode bT_ask 11 = .ok (.getfield 9, 3) := by decide +kernel
theorem dT_ask_14 : decode bT_ask 14 = .ok (.iload_n 1, 1) := by decide +kernel
theorem dT_ask_15 : decode bT_ask 15 = .ok (.iaload, 1) := by decide +kernel
theorem dT_ask_16 : decode bT_ask 16 = .ok (.iconst 3, 1) := by decide +kernel
theorem dT_ask_17 : decode bT_ask 17 = .ok (.if_icmp .ne 12, 3) := by decide +kernel
theorem dT_ask_20 : decode bT_ask 20 = .ok (.aload_n 0, 1) := by decide +kernel
theorem dT_ask_21 : decode bT_ask 21 = .ok (.getfield 27, 3) := by decide +kernel
theorem dT_ask_24 : decode bT_ask 24 = .ok (.iload_n 1, 1) := by decide +kernel
theorem dT_ask_25 : decode bT_ask 25 = .ok (.baload, 1) := by decide +kernel
theorem dT_ask_26 : decode bT_ask 26 = .ok (.ifCond .eq 5, 3) := by decide +kernel
theorem dT_ask_29 : decode bT_ask 29 = .ok (.iconst (-1), 1) := by decide +kernel
theorem dT_ask_30 : decode bT_ask 30 = .ok (.ireturn, 1) := by decide +kernel
theorem dT_ask_31 : decode bT_ask 31 = .ok (.aload_n 0, 1) := by decide +kernel
theorem dT_ask_32 : decode bT_ask 32 = .ok (.invokevirtual 113, 3) := by decide +kernel
theorem dT_ask_35 : decode bT_ask 35 = .ok (.bipush 6, 2) := by decide +kernel
theorem dT_ask_37 : decode bT_ask 37 = .ok (.if_icmp .lt 6, 3) := by decide +kernel
theorem dT_ask_40 : decode bT_ask 40 = .ok (.bipush (-2), 2) := by decide +kernel
theorem dT_ask_42 : decode bT_ask 42 = .ok (.ireturn, 1) := by decide +kernel
theorem dT_ask_43 : decode bT_ask 43 = .ok (.aload_n 0, 1) := by decide +kernel
theorem dT_ask_44 : decode bT_ask 44 = .ok (.getfield 27, 3) := by decide +kernel
theorem dT_ask_47 : decode bT_ask 47 = .ok (.iload_n 1, 1) := by decide +kernel
theorem dT_ask_48 : decode bT_ask 48 = .ok (.iconst 1, 1) := by decide +kernel
theorem dT_ask_49 : decode bT_ask 49 = .ok (.bastore, 1) := by decide +kernel
theorem dT_ask_50 : decode bT_ask 50 = .ok (.iconst 0, 1) := by decide +kernel
theorem dT_ask_51 : decode bT_ask 51 = .ok (.ireturn, 1) := by decide +kernel
theorem dT_serve_0 : decode bT_serve 0 = .ok (.aload_n 0, 1) := by decide +kernel
theorem dT_serve_1 : decode bT_serve 1 = .ok (.invokevirtual 116, 3) := by decide +kernel
theorem dT_serve_4 : decode bT_serve 4 = .ok (.iconst 0, 1) := by decide +kernel
theorem dT_serve_5 : decode bT_serve 5 = .ok (.istore_n 1, 1) := by decide +kernel
theorem dT_serve_6 : decode bT_serve 6 = .ok (.iload_n 1, 1) := by decide +kernel
theorem dT_serve_7 : decode bT_serve 7 = .ok (.bipush 16, 2) := by decide +kernel
theorem dT_serve_9 : decode bT_serve 9 = .ok (.if_icmp .ge 16, 3) := by decide +kernel
theorem dT_serve_12 : decode bT_serve 12 = .ok (.aload_n 0, 1) := by decide +kernel
theorem dT_serve_13 : decode bT_serve 13 = .ok (.getfield 27, 3) := by decide +kernel
theorem dT_serve_16 : decode bT_serve 16 = .ok (.iload_n 1, 1) := by decide +kernel
theorem dT_serve_17 : decode bT_serve 17 = .ok (.iconst 0, 1) := by decide +kernel
theorem dT_serve_18 : decode bT_serve 18 = .ok (.bastore, 1) := by decide +kernel
theorem dT_serve_19 : decode bT_serve 19 = .ok (.iinc 1 1, 3) := by decide +kernel
theorem dT_serve_22 : decode bT_serve 22 = .ok (.goto (-16), 3) := by decide +kernel
theorem dT_serve_25 : decode bT_serve 25 = .ok (.iconst 0, 1) := by decide +kernel
theorem dT_serve_26 : decode bT_serve 26 = .ok (.istore_n 1, 1) := by decide +kernel
theorem dT_serve_27 : decode bT_serve 27 = .ok (.iconst 0, 1) := by decide +kernel
theorem dT_serve_28 : decode bT_serve 28 = .ok (.istore_n 2, 1) := by decide +kernel
theorem dT_serve_29 : decode bT_serve 29 = .ok (.iload_n 2, 1) := by decide +kernel
theorem dT_serve_30 : decode bT_serve 30 = .ok (.aload_n 0, 1) := by decide +kernel
theorem dT_serve_31 : decode bT_serve 31 = .ok (.getfield 41, 3) := by decide +kernel
theorem dT_serve_34 : decode bT_serve 34 = .ok (.if_icmp .ge 25, 3) := by decide +kernel
theorem dT_serve_37 : decode bT_serve 37 = .ok (.aload_n 0, 1) := by decide +kernel
theorem dT_serve_38 : decode bT_serve 38 = .ok (.aload_n 0, 1) := by decide +kernel
theorem dT_serve_39 : decode bT_serve 39 = .ok (.getfield 38, 3) := by decide +kernel
theorem dT_serve_42 : decode bT_serve 42 = .ok (.iload_n 2, 1) := by decide +kernel
theorem dT_serve_43 : decode bT_serve 43 = .ok (.iaload, 1) := by decide +kernel
theorem dT_serve_44 : decode bT_serve 44 = .ok (.invokevirtual 79, 3) := by decide +kernel
theorem dT_serve_47 : decode bT_serve 47 = .ok (.ifCond .eq 6, 3) := by decide +kernel
theorem dT_serve_50 : decode bT_serve 50 = .ok (.iinc 1 1, 3) := by decide +kernel
theorem dT_serve_53 : decode bT_serve 53 = .ok (.iinc 2 1, 3) := by decide +kernel
theorem dT_serve_56 : decode bT_serve 56 = .ok (.goto (-27), 3) := by decide +kernel
theorem dT_serve_59 : decode bT_serve 59 = .ok (.iload_n 1, 1) := by decide +kernel
theorem dT_serve_60 : decode bT_serve 60 = .ok (.ireturn, 1) := by decide +kernel
theorem dT_empty_0 : decode bT_empty 0 = .ok (.iload_n 1, 1) := by decide +kernel
theorem dT_empty_1 : decode bT_empty 1 = .ok (.invokestatic 119, 3) := by decide +kernel
theorem dT_empty_4 : decode bT_empty 4 = .ok (.ifCond .ne 5, 3) := by decide +kernel
theorem dT_empty_7 : decode bT_empty 7 = .ok (.iconst (-1), 1) := by decide +kernel
theorem dT_empty_8 : decode bT_empty 8 = .ok (.ireturn, 1) := by decide +kernel
theorem dT_empty_9 : decode bT_empty 9 = .ok (.aload_n 0, 1) := by decide +kernel
theorem dT_empty_10 : decode bT_empty 10 = .ok (.iconst 0, 1) := by decide +kernel
theorem dT_empty_11 : decode bT_empty 11 = .ok (.putfield 41, 3) := by decide +kernel
theorem dT_empty_14 : decode bT_empty 14 = .ok (.aload_n 0, 1) := by decide +kernel
theorem dT_empty_15 : decode bT_empty 15 = .ok (.iload_n 1, 1) := by decide +kernel
theorem dT_empty_16 : decode bT_empty 16 = .ok (.invokevirtual 122, 3) := by decide +kernel
theorem dT_empty_19 : decode bT_empty 19 = .ok (.aload_n 0, 1) := by decide +kernel
theorem dT_empty_20 : decode bT_empty 20 = .ok (.iload_n 1, 1) := by decide +kernel
theorem dT_empty_21 : decode bT_empty 21 = .ok (.invokevirtual 125, 3) := by decide +kernel
theorem dT_empty_24 : decode bT_empty 24 = .ok (.ifCond .ne 6, 3) := by decide +kernel
theorem dT_empty_27 : decode bT_empty 27 = .ok (.bipush (-2), 2) := by decide +kernel
theorem dT_empty_29 : decode bT_empty 29 = .ok (.ireturn, 1) := by decide +kernel
theorem dT_empty_30 : decode bT_empty 30 = .ok (.iconst 0, 1) := by decide +kernel
theorem dT_empty_31 : decode bT_empty 31 = .ok (.istore_n 2, 1) := by decide +kernel
theorem dT_empty_32 : decode bT_empty 32 = .ok (.iload_n 2, 1) := by decide +kernel
theorem dT_empty_33 : decode bT_empty 33 = .ok (.aload_n 0, 1) := by decide +kernel
theorem dT_empty_34 : decode bT_empty 34 = .ok (.getfield 41, 3) := by decide +kernel
theorem dT_empty_37 : decode bT_empty 37 = .ok (.if_icmp .ge 20, 3) := by decide +kernel
theorem dT_empty_40 : decode bT_empty 40 = .ok (.aload_n 0, 1) := by decide +kernel
theorem dT_empty_41 : decode bT_empty 41 = .ok (.aload_n 0, 1) := by decide +kernel
theorem dT_empty_42 : decode bT_empty 42 = .ok (.getfield 38, 3) := by decide +kernel
theorem dT_empty_45 : decode bT_empty 45 = .ok (.iload_n 2, 1) := by decide +kernel
theorem dT_empty_46 : decode bT_empty 46 = .ok (.iaload, 1) := by decide +kernel
theorem dT_empty_47 : decode bT_empty 47 = .ok (.iload_n 1, 1) := by decide +kernel
theorem dT_empty_48 : decode bT_empty 48 = .ok (.invokevirtual 128, 3) := by decide +kernel
theorem dT_empty_51 : decode bT_empty 51 = .ok (.iinc 2 1, 3) := by decide +kernel
theorem dT_empty_54 : decode bT_empty 54 = .ok (.goto (-22), 3) := by decide +kernel
theorem dT_empty_57 : decode bT_empty 57 = .ok (.aload_n 0, 1) := by decide +kernel
theorem dT_empty_58 : decode bT_empty 58 = .ok (.getfield 61, 3) := by decide +kernel
theorem dT_empty_61 : decode bT_empty 61 = .ok (.getfield 131, 3) := by decide +kernel
theorem dT_empty_64 : decode bT_empty 64 = .ok (.iload_n 1, 1) := by decide +kernel
theorem dT_empty_65 : decode bT_empty 65 = .ok (.iconst 0, 1) := by decide +kernel
theorem dT_empty_66 : decode bT_empty 66 = .ok (.iastore, 1) := by decide +kernel
theorem dT_empty_67 : decode bT_empty 67 = .ok (.aload_n 0, 1) := by decide +kernel
theorem dT_empty_68 : decode bT_empty 68 = .ok (.getfield 41, 3) := by decide +kernel
theorem dT_empty_71 : decode bT_empty 71 = .ok (.ireturn, 1) := by decide +kernel
theorem dT_lose_0 : decode bT_lose 0 = .ok (.iload_n 1, 1) := by decide +kernel
theorem dT_lose_1 : decode bT_lose 1 = .ok (.invokestatic 119, 3) := by decide +kernel
theorem dT_lose_4 : decode bT_lose 4 = .ok (.ifCond .ne 5, 3) := by decide +kernel
theorem dT_lose_7 : decode bT_lose 7 = .ok (.iconst (-1), 1) := by decide +kernel
theorem dT_lose_8 : decode bT_lose 8 = .ok (.ireturn, 1) := by decide +kernel
theorem dT_lose_9 : decode bT_lose 9 = .ok (.iconst 0, 1) := by decide +kernel
theorem dT_lose_10 : decode bT_lose 10 = .ok (.istore_n 2, 1) := by decide +kernel
theorem dT_lose_11 : decode bT_lose 11 = .ok (.iconst 0, 1) := by decide +kernel
theorem dT_lose_12 : decode bT_lose 12 = .ok (.istore_n 3, 1) := by decide +kernel
theorem dT_lose_13 : decode bT_lose 13 = .ok (.iload_n 3, 1) := by decide +kernel
theorem dT_lose_14 : decode bT_lose 14 = .ok (.bipush 16, 2) := by decide +kernel
theorem dT_lose_16 : decode bT_lose 16 = .ok (.if_icmp .ge 51, 3) := by decide +kernel
theorem dT_lose_19 : decode bT_lose 19 = .ok (.aload_n 0, 1) := by decide +kernel
theorem dT_lose_20 : decode bT_lose 20 = .ok (.iload_n 3, 1) := by decide +kernel
theorem dT_lose_21 : decode bT_lose 21 = .ok (.iload_n 1, 1) := by decide +kernel
theorem dT_lose_22 : decode bT_lose 22 = .ok (.invokevirtual 134, 3) := by decide +kernel
theorem dT_lose_25 : decode bT_lose 25 = .ok (.ifCond .ne 6, 3) := by decide +kernel
theorem dT_lose_28 : decode bT_lose 28 = .ok (.goto 33, 3) := by decide +kernel
theorem dT_lose_31 : decode bT_lose 31 = .ok (.aload_n 0, 1) := by decide +kernel
theorem dT_lose_32 : decode bT_lose 32 = .ok (.getfield 9, 3) := by decide +kernel
theorem dT_lose_35 : decode bT_lose 35 = .ok (.iload_n 3, 1) := by decide +kernel
theorem dT_lose_36 : decode bT_lose 36 = .ok (.iaload, 1) := by decide +kernel
theorem dT_lose_37 : decode bT_lose 37 = .ok (.iconst 3, 1) := by decide +kernel
theorem dT_lose_38 : decode bT_lose 38 = .ok (.if_icmp .ne 16, 3) := by decide +kernel
theorem dT_lose_41 : decode bT_lose 41 = .ok (.aload_n 0, 1) := by decide +kernel
theorem dT_lose_42 : decode bT_lose 42 = .ok (.getfield 9, 3) := by decide +kernel
theorem dT_lose_45 : decode bT_lose 45 = .ok (.iload_n 3, 1) := by decide +kernel
theorem dT_lose_46 : decode bT_lose 46 = .ok (.iconst 4, 1) := by decide +kernel
theorem dT_lose_47 : decode bT_lose 47 = .ok (.iastore, 1) := by decide +kernel
theorem dT_lose_48 : decode bT_lose 48 = .ok (.iinc 2 1, 3) := by decide +kernel
theorem dT_lose_51 : decode bT_lose 51 = .ok (.goto 10, 3) := by decide +kernel
theorem dT_lose_54 : decode bT_lose 54 = .ok (.aload_n 0, 1) := by decide +kernel
theorem dT_lose_55 : decode bT_lose 55 = .ok (.getfield 9, 3) := by decide +kernel
theorem dT_lose_58 : decode bT_lose 58 = .ok (.iload_n 3, 1) := by decide +kernel
theorem dT_lose_59 : decode bT_lose 59 = .ok (.iconst 1, 1) := by decide +kernel
theorem dT_lose_60 : decode bT_lose 60 = .ok (.iastore, 1) := by decide +kernel
theorem dT_lose_61 : decode bT_lose 61 = .ok (.iinc 3 1, 3) := by decide +kernel
theorem dT_lose_64 : decode bT_lose 64 = .ok (.goto (-51), 3) := by decide +kernel
theorem dT_lose_67 : decode bT_lose 67 = .ok (.aload_n 0, 1) := by decide +kernel
theorem dT_lose_68 : decode bT_lose 68 = .ok (.getfield 61, 3) := by decide +kernel
theorem dT_lose_71 : decode bT_lose 71 = .ok (.iload_n 1, 1) := by decide +kernel
theorem dT_lose_72 : decode bT_lose 72 = .ok (.invokevirtual 137, 3) := by decide +kernel
theorem dT_lose_75 : decode bT_lose 75 = .ok (.iload_n 2, 1) := by decide +kernel
theorem dT_lose_76 : decode bT_lose 76 = .ok (.ireturn, 1) := by decide +kernel
theorem dT_file_0 : decode bT_file 0 = .ok (.iload_n 1, 1) := by decide +kernel
theorem dT_file_1 : decode bT_file 1 = .ok (.invokestatic 65, 3) := by decide +kernel
theorem dT_file_4 : decode bT_file 4 = .ok (.ifCond .ne 5, 3) := by decide +kernel
theorem dT_file_7 : decode bT_file 7 = .ok (.iconst (-1), 1) := by decide +kernel
theorem dT_file_8 : decode bT_file 8 = .ok (.ireturn, 1) := by decide +kernel
theorem dT_file_9 : decode bT_file 9 = .ok (.aload_n 0, 1) := by decide +kernel
theorem dT_file_10 : decode bT_file 10 = .ok (.getfield 9, 3) := by decide +kernel
theorem dT_file_13 : decode bT_file 13 = .ok (.iload_n 1, 1) := by decide +kernel
theorem dT_file_14 : decode bT_file 14 = .ok (.iaload, 1) := by decide +kernel
theorem dT_file_15 : decode bT_file 15 = .ok (.ifCond .eq 7, 3) := by decide +kernel
theorem dT_file_18 : decode bT_file 18 = .ok (.iconst 1, 1) := by decide +kernel
theorem dT_file_19 : decode bT_file 19 = .ok (.goto 4, 3) := by decide +kernel
theorem dT_file_22 : decode bT_file 22 = .ok (.iconst 0, 1) := by decide +kernel
theorem dT_file_23 : decode bT_file 23 = .ok (.istore_n 3, 1) := by decide +kernel
theorem dT_file_24 : decode bT_file 24 = .ok (.iload_n 2, 1) := by decide +kernel
theorem dT_file_25 : decode bT_file 25 = .ok (.tableswitch 128 0 5 #[39, 46, 61, 80, 99, 114], 39) := by decide +kernel
theorem dT_file_64 : decode bT_file 64 = .ok (.aload_n 0, 1) := by decide +kernel
theorem dT_file_65 : decode bT_file 65 = .ok (.getfield 9, 3) := by decide +kernel
theorem dT_file_68 : decode bT_file 68 = .ok (.iload_n 1, 1) := by decide +kernel
theorem dT_file_69 : decode bT_file 69 = .ok (.iaload, 1) := by decide +kernel
theorem dT_file_70 : decode bT_file 70 = .ok (.ireturn, 1) := by decide +kernel
theorem dT_file_71 : decode bT_file 71 = .ok (.iload_n 3, 1) := by decide +kernel
theorem dT_file_72 : decode bT_file 72 = .ok (.ifCond .eq 12, 3) := by decide +kernel
theorem dT_file_75 : decode bT_file 75 = .ok (.aload_n 0, 1) := by decide +kernel
theorem dT_file_76 : decode bT_file 76 = .ok (.getfield 13, 3) := by decide +kernel
theorem dT_file_79 : decode bT_file 79 = .ok (.iload_n 1, 1) := by decide +kernel
theorem dT_file_80 : decode bT_file 80 = .ok (.iaload, 1) := by decide +kernel
theorem dT_file_81 : decode bT_file 81 = .ok (.goto 4, 3) := by decide +kernel
theorem dT_file_84 : decode bT_file 84 = .ok (.iconst 0, 1) := by decide +kernel
theorem dT_file_85 : decode bT_file 85 = .ok (.ireturn, 1) := by decide +kernel
theorem dT_file_86 : decode bT_file 86 = .ok (.aload_n 0, 1) := by decide +kernel
theorem dT_file_87 : decode bT_file 87 = .ok (.iload_n 1, 1) := by decide +kernel
theorem dT_file_88 : decode bT_file 88 = .ok (.invokevirtual 140, 3) := by decide +kernel
theorem dT_file_91 : decode bT_file 91 = .ok (.ifCond .eq 12, 3) := by decide +kernel
theorem dT_file_94 : decode bT_file 94 = .ok (.aload_n 0, 1) := by decide +kernel
theorem dT_file_95 : decode bT_file 95 = .ok (.getfield 21, 3) := by decide +kernel
theorem dT_file_98 : decode bT_file 98 = .ok (.iload_n 1, 1) := by decide +kernel
theorem dT_file_99 : decode bT_file 99 = .ok (.iaload, 1) := by decide +kernel
theorem dT_file_100 : decode bT_file 100 = .ok (.goto 4, 3) := by decide +kernel
theorem dT_file_103 : decode bT_file 103 = .ok (.iconst (-1), 1) := by decide +kernel
theorem dT_file_104 : decode bT_file 104 = .ok (.ireturn, 1) := by decide +kernel
theorem dT_file_105 : decode bT_file 105 = .ok (.aload_n 0, 1) := by decide +kernel
theorem dT_file_106 : decode bT_file 106 = .ok (.iload_n 1, 1) := by decide +kernel
theorem dT_file_107 : decode bT_file 107 = .ok (.invokevirtual 140, 3) := by decide +kernel
theorem dT_file_110 : decode bT_file 110 = .ok (.ifCond .eq 12, 3) := by decide +kernel
theorem dT_file_113 : decode bT_file 113 = .ok (.aload_n 0, 1) := by decide +kernel
theorem dT_file_114 : decode bT_file 114 = .ok (.getfield 24, 3) := by decide +kernel
theorem dT_file_117 : decode bT_file 117 = .ok (.iload_n 1, 1) := by decide +kernel
theorem dT_file_118 : decode bT_file 118 = .ok (.iaload, 1) := by decide +kernel
theorem dT_file_119 : decode bT_file 119 = .ok (.goto 4, 3) := by decide +kernel
theorem dT_file_122 : decode bT_file 122 = .ok (.iconst (-1), 1) := by decide +kernel
theorem dT_file_123 : decode bT_file 123 = .ok (.ireturn, 1) := by decide +kernel
theorem dT_file_124 : decode bT_file 124 = .ok (.aload_n 0, 1) := by decide +kernel
theorem dT_file_125 : decode bT_file 125 = .ok (.getfield 27, 3) := by decide +kernel
theorem dT_file_128 : decode bT_file 128 = .ok (.iload_n 1, 1) := by decide +kernel
theorem dT_file_129 : decode bT_file 129 = .ok (.baload, 1) := by decide +kernel
theorem dT_file_130 : decode bT_file 130 = .ok (.ifCond .eq 7, 3) := by decide +kernel
theorem dT_file_133 : decode bT_file 133 = .ok (.iconst 1, 1) := by decide +kernel
theorem dT_file_134 : decode bT_file 134 = .ok (.goto 4, 3) := by decide +kernel
theorem dT_file_137 : decode bT_file 137 = .ok (.iconst 0, 1) := by decide +kernel
theorem dT_file_138 : decode bT_file 138 = .ok (.ireturn, 1) := by decide +kernel
theorem dT_file_139 : decode bT_file 139 = .ok (.iload_n 3, 1) := by decide +kernel
theorem dT_file_140 : decode bT_file 140 = .ok (.ifCond .eq 11, 3) := by decide +kernel
theorem dT_file_143 : decode bT_file 143 = .ok (.aload_n 0, 1) := by decide +kernel
theorem dT_file_144 : decode bT_file 144 = .ok (.iload_n 1, 1) := by decide +kernel
theorem dT_file_145 : decode bT_file 145 = .ok (.invokevirtual 143, 3) := by decide +kernel
theorem dT_file_148 : decode bT_file 148 = .ok (.goto 4, 3) := by decide +kernel
theorem dT_file_151 : decode bT_file 151 = .ok (.iconst (-1), 1) := by decide +kernel
theorem dT_file_152 : decode bT_file 152 = .ok (.ireturn, 1) := by decide +kernel
theorem dT_file_153 : decode bT_file 153 = .ok (.iconst (-1), 1) := by decide +kernel
theorem dT_file_154 : decode bT_file 154 = .ok (.ireturn, 1) := by decide +kernel
theorem dT_cartridge_0 : decode bT_cartridge 0 = .ok (.iload_n 1, 1) := by decide +kernel
theorem dT_cartridge_1 : decode bT_cartridge 1 = .ok (.invokestatic 119, 3) := by decide +kernel
theorem dT_cartridge_4 : decode bT_cartridge 4 = .ok (.ifCond .ne 5, 3) := by decide +kernel
theorem dT_cartridge_7 : decode bT_cartridge 7 = .ok (.iconst (-1), 1) := by decide +kernel
theorem dT_cartridge_8 : decode bT_cartridge 8 = .ok (.ireturn, 1) := by decide +kernel
theorem dT_cartridge_9 : decode bT_cartridge 9 = .ok (.iload_n 2, 1) := by decide +kernel
theorem dT_cartridge_10 : decode bT_cartridge 10 = .ok (.tableswitch 59 0 2 #[26, 36, 42], 26) := by decide +kernel
theorem dT_cartridge_36 : decode bT_cartridge 36 = .ok (.aload_n 0, 1) := by decide +kernel
theorem dT_cartridge_37 : decode bT_cartridge 37 = .ok (.getfield 61, 3) := by decide +kernel
theorem dT_cartridge_40 : decode bT_cartridge 40 = .ok (.getfield 131, 3) := by decide +kernel
theorem dT_cartridge_43 : decode bT_cartridge 43 = .ok (.iload_n 1, 1) := by decide +kernel
theorem dT_cartridge_44 : decode bT_cartridge 44 = .ok (.iaload, 1) := by decide +kernel
theorem dT_cartridge_45 : decode bT_cartridge 45 = .ok (.ireturn, 1) := by decide +kernel
theorem dT_cartridge_46 : decode bT_cartridge 46 = .ok (.aload_n 0, 1) := by decide +kernel
theorem dT_cartridge_47 : decode bT_cartridge 47 = .ok (.iload_n 1, 1) := by decide +kernel
theorem dT_cartridge_48 : decode bT_cartridge 48 = .ok (.invokevirtual 146, 3) := by decide +kernel
theorem dT_cartridge_51 : decode bT_cartridge 51 = .ok (.ireturn, 1) := by decide +kernel
theorem dT_cartridge_52 : decode bT_cartridge 52 = .ok (.aload_n 0, 1) := by decide +kernel
theorem dT_cartridge_53 : decode bT_cartridge 53 = .ok (.getfield 61, 3) := by decide +kernel
theorem dT_cartridge_56 : decode bT_cartridge 56 = .ok (.getfield 149, 3) := by decide +kernel
theorem dT_cartridge_59 : decode bT_cartridge 59 = .ok (.iload_n 1, 1) := by decide +kernel
theorem dT_cartridge_60 : decode bT_cartridge 60 = .ok (.if_icmp .ne 7, 3) := by decide +kernel
theorem dT_cartridge_63 : decode bT_cartridge 63 = .ok (.iconst 1, 1) := by decide +kernel
theorem dT_cartridge_64 : decode bT_cartridge 64 = .ok (.goto 4, 3) := by decide +kernel
theorem dT_cartridge_67 : decode bT_cartridge 67 = .ok (.iconst 0, 1) := by decide +kernel
theorem dT_cartridge_68 : decode bT_cartridge 68 = .ok (.ireturn, 1) := by decide +kernel
theorem dT_cartridge_69 : decode bT_cartridge 69 = .ok (.iconst (-1), 1) := by decide +kernel
theorem dT_cartridge_70 : decode bT_cartridge 70 = .ok (.ireturn, 1) := by decide +kernel
theorem dT_count_0 : decode bT_count 0 = .ok (.iload_n 1, 1) := by decide +kernel
theorem dT_count_1 : decode bT_count 1 = .ok (.tableswitch 57 0 3 #[31, 36, 44, 52], 31) := by decide +kernel
theorem dT_count_32 : decode bT_count 32 = .ok (.aload_n 0, 1) := by decide +kernel
theorem dT_count_33 : decode bT_count 33 = .ok (.invokevirtual 105, 3) := by decide +kernel
theorem dT_count_36 : decode bT_count 36 = .ok (.ireturn, 1) := by decide +kernel
theorem dT_count_37 : decode bT_count 37 = .ok (.aload_n 0, 1) := by decide +kernel
theorem dT_count_38 : decode bT_count 38 = .ok (.getfield 61, 3) := by decide +kernel
theorem dT_count_41 : decode bT_count 41 = .ok (.getfield 152, 3) := by decide +kernel
theorem dT_count_44 : decode bT_count 44 = .ok (.ireturn, 1) := by decide +kernel
theorem dT_count_45 : decode bT_count 45 = .ok (.aload_n 0, 1) := by decide +kernel
theorem dT_count_46 : decode bT_count 46 = .ok (.getfield 61, 3) := by decide +kernel
theorem dT_count_49 : decode bT_count 49 = .ok (.getfield 155, 3) := by decide +kernel
theorem dT_count_52 : decode bT_count 52 = .ok (.ireturn, 1) := by decide +kernel
theorem dT_count_53 : decode bT_count 53 = .ok (.aload_n 0, 1) := by decide +kernel
theorem dT_count_54 : decode bT_count 54 = .ok (.invokevirtual 113, 3) := by decide +kernel
theorem dT_count_57 : decode bT_count 57 = .ok (.ireturn, 1) := by decide +kernel
theorem dT_count_58 : decode bT_count 58 = .ok (.iconst (-1), 1) := by decide +kernel
theorem dT_count_59 : decode bT_count 59 = .ok (.ireturn, 1) := by decide +kernel
theorem dT_isFileNumber_0 : decode bT_isFileNumber 0 = .ok (.iload_n 0, 1) := by decide +kernel
theorem dT_isFileNumber_1 : decode bT_isFileNumber 1 = .ok (.ifCond .lt 13, 3) := by decide +kernel
theorem dT_isFileNumber_4 : decode bT_isFileNumber 4 = .ok (.iload_n 0, 1) := by decide +kernel
theorem dT_isFileNumber_5 : decode bT_isFileNumber 5 = .ok (.bipush 16, 2) := by decide +kernel
theorem dT_isFileNumber_7 : decode bT_isFileNumber 7 = .ok (.if_icmp .ge 7, 3) := by decide +kernel
theorem dT_isFileNumber_10 : decode bT_isFileNumber 10 = .ok (.iconst 1, 1) := by decide +kernel
theorem dT_isFileNumber_11 : decode bT_isFileNumber 11 = .ok (.goto 4, 3) := by decide +kernel
theorem dT_isFileNumber_14 : decode bT_isFileNumber 14 = .ok (.iconst 0, 1) := by decide +kernel
theorem dT_isFileNumber_15 : decode bT_isFileNumber 15 = .ok (.ireturn, 1) := by decide +kernel
theorem dT_isCartridgeNumber_0 : decode bT_isCartridgeNumber 0 = .ok (.iload_n 0, 1) := by decide +kernel
theorem dT_isCartridgeNumber_1 : decode bT_isCartridgeNumber 1 = .ok (.ifCond .lt 12, 3) := by decide +kernel
theorem dT_isCartridgeNumber_4 : decode bT_isCartridgeNumber 4 = .ok (.iload_n 0, 1) := by decide +kernel
theorem dT_isCartridgeNumber_5 : decode bT_isCartridgeNumber 5 = .ok (.iconst 4, 1) := by decide +kernel
theorem dT_isCartridgeNumber_6 : decode bT_isCartridgeNumber 6 = .ok (.if_icmp .ge 7, 3) := by decide +kernel
theorem dT_isCartridgeNumber_9 : decode bT_isCartridgeNumber 9 = .ok (.iconst 1, 1) := by decide +kernel
theorem dT_isCartridgeNumber_10 : decode bT_isCartridgeNumber 10 = .ok (.goto 4, 3) := by decide +kernel
theorem dT_isCartridgeNumber_13 : decode bT_isCartridgeNumber 13 = .ok (.iconst 0, 1) := by decide +kernel
theorem dT_isCartridgeNumber_14 : decode bT_isCartridgeNumber 14 = .ok (.ireturn, 1) := by decide +kernel
theorem dT_isUnits_0 : decode bT_isUnits 0 = .ok (.iload_n 0, 1) := by decide +kernel
theorem dT_isUnits_1 : decode bT_isUnits 1 = .ok (.ifCond .lt 13, 3) := by decide +kernel
theorem dT_isUnits_4 : decode bT_isUnits 4 = .ok (.iload_n 0, 1) := by decide +kernel
theorem dT_isUnits_5 : decode bT_isUnits 5 = .ok (.bipush 24, 2) := by decide +kernel
theorem dT_isUnits_7 : decode bT_isUnits 7 = .ok (.if_icmp .gt 7, 3) := by decide +kernel
theorem dT_isUnits_10 : decode bT_isUnits 10 = .ok (.iconst 1, 1) := by decide +kernel
theorem dT_isUnits_11 : decode bT_isUnits 11 = .ok (.goto 4, 3) := by decide +kernel
theorem dT_isUnits_14 : decode bT_isUnits 14 = .ok (.iconst 0, 1) := by decide +kernel
theorem dT_isUnits_15 : decode bT_isUnits 15 = .ok (.ireturn, 1) := by decide +kernel
theorem dT_isPresent_0 : decode bT_isPresent 0 = .ok (.iload_n 1, 1) := by decide +kernel
theorem dT_isPresent_1 : decode bT_isPresent 1 = .ok (.invokestatic 65, 3) := by decide +kernel
theorem dT_isPresent_4 : decode bT_isPresent 4 = .ok (.ifCond .eq 16, 3) := by decide +kernel
theorem dT_isPresent_7 : decode bT_isPresent 7 = .ok (.aload_n 0, 1) := by decide +kernel
theorem dT_isPresent_8 : decode bT_isPresent 8 = .ok (.getfield 9, 3) := by decide +kernel
theorem dT_isPresent_11 : decode bT_isPresent 11 = .ok (.iload_n 1, 1) := by decide +kernel
theorem dT_isPresent_12 : decode bT_isPresent 12 = .ok (.iaload, 1) := by decide +kernel
theorem dT_isPresent_13 : decode bT_isPresent 13 = .ok (.ifCond .eq 7, 3) := by decide +kernel
theorem dT_isPresent_16 : decode bT_isPresent 16 = .ok (.iconst 1, 1) := by decide +kernel
theorem dT_isPresent_17 : decode bT_isPresent 17 = .ok (.goto 4, 3) := by decide +kernel
theorem dT_isPresent_20 : decode bT_isPresent 20 = .ok (.iconst 0, 1) := by decide +kernel
theorem dT_isPresent_21 : decode bT_isPresent 21 = .ok (.ireturn, 1) := by decide +kernel
theorem dT_isCell_0 : decode bT_isCell 0 = .ok (.aload_n 0, 1) := by decide +kernel
theorem dT_isCell_1 : decode bT_isCell 1 = .ok (.iload_n 1, 1) := by decide +kernel
theorem dT_isCell_2 : decode bT_isCell 2 = .ok (.invokevirtual 88, 3) := by decide +kernel
theorem dT_isCell_5 : decode bT_isCell 5 = .ok (.ifCond .eq 21, 3) := by decide +kernel
theorem dT_isCell_8 : decode bT_isCell 8 = .ok (.iload_n 2, 1) := by decide +kernel
theorem dT_isCell_9 : decode bT_isCell 9 = .ok (.ifCond .lt 17, 3) := by decide +kernel
theorem dT_isCell_12 : decode bT_isCell 12 = .ok (.iload_n 2, 1) := by decide +kernel
theorem dT_isCell_13 : decode bT_isCell 13 = .ok (.aload_n 0, 1) := by decide +kernel
theorem dT_isCell_14 : decode bT_isCell 14 = .ok (.getfield 13, 3) := by decide +kernel
theorem dT_isCell_17 : decode bT_isCell 17 = .ok (.iload_n 1, 1) := by decide +kernel
theorem dT_isCell_18 : decode bT_isCell 18 = .ok (.iaload, 1) := by decide +kernel
theorem dT_isCell_19 : decode bT_isCell 19 = .ok (.if_icmp .ge 7, 3) := by decide +kernel
theorem dT_isCell_22 : decode bT_isCell 22 = .ok (.iconst 1, 1) := by decide +kernel
theorem dT_isCell_23 : decode bT_isCell 23 = .ok (.goto 4, 3) := by decide +kernel
theorem dT_isCell_26 : decode bT_isCell 26 = .ok (.iconst 0, 1) := by decide +kernel
theorem dT_isCell_27 : decode bT_isCell 27 = .ok (.ireturn, 1) := by decide +kernel
theorem dT_isOnDisk_0 : decode bT_isOnDisk 0 = .ok (.aload_n 0, 1) := by decide +kernel
theorem dT_isOnDisk_1 : decode bT_isOnDisk 1 = .ok (.getfield 9, 3) := by decide +kernel
theorem dT_isOnDisk_4 : decode bT_isOnDisk 4 = .ok (.iload_n 1, 1) := by decide +kernel
theorem dT_isOnDisk_5 : decode bT_isOnDisk 5 = .ok (.iaload, 1) := by decide +kernel
theorem dT_isOnDisk_6 : decode bT_isOnDisk 6 = .ok (.iconst 1, 1) := by decide +kernel
theorem dT_isOnDisk_7 : decode bT_isOnDisk 7 = .ok (.if_icmp .eq 13, 3) := by decide +kernel
theorem dT_isOnDisk_10 : decode bT_isOnDisk 10 = .ok (.aload_n 0, 1) := by decide +kernel
theorem dT_isOnDisk_11 : decode bT_isOnDisk 11 = .ok (.getfield 9, 3) := by decide +kernel
theorem dT_isOnDisk_14 : decode bT_isOnDisk 14 = .ok (.iload_n 1, 1) := by decide +kernel
theorem dT_isOnDisk_15 : decode bT_isOnDisk 15 = .ok (.iaload, 1) := by decide +kernel
theorem dT_isOnDisk_16 : decode bT_isOnDisk 16 = .ok (.iconst 2, 1) := by decide +kernel
theorem dT_isOnDisk_17 : decode bT_isOnDisk 17 = .ok (.if_icmp .ne 7, 3) := by decide +kernel
theorem dT_isOnDisk_20 : decode bT_isOnDisk 20 = .ok (.iconst 1, 1) := by decide +kernel
theorem dT_isOnDisk_21 : decode bT_isOnDisk 21 = .ok (.goto 4, 3) := by decide +kernel
theorem dT_isOnDisk_24 : decode bT_isOnDisk 24 = .ok (.iconst 0, 1) := by decide +kernel
theorem dT_isOnDisk_25 : decode bT_isOnDisk 25 = .ok (.ireturn, 1) := by decide +kernel
theorem dT_hasCopy_0 : decode bT_hasCopy 0 = .ok (.aload_n 0, 1) := by decide +kernel
theorem dT_hasCopy_1 : decode bT_hasCopy 1 = .ok (.getfield 9, 3) := by decide +kernel
theorem dT_hasCopy_4 : decode bT_hasCopy 4 = .ok (.iload_n 1, 1) := by decide +kernel
theorem dT_hasCopy_5 : decode bT_hasCopy 5 = .ok (.iaload, 1) := by decide +kernel
theorem dT_hasCopy_6 : decode bT_hasCopy 6 = .ok (.iconst 2, 1) := by decide +kernel
theorem dT_hasCopy_7 : decode bT_hasCopy 7 = .ok (.if_icmp .eq 13, 3) := by decide +kernel
theorem dT_hasCopy_10 : decode bT_hasCopy 10 = .ok (.aload_n 0, 1) := by decide +kernel
theorem dT_hasCopy_11 : decode bT_hasCopy 11 = .ok (.getfield 9, 3) := by decide +kernel
theorem dT_hasCopy_14 : decode bT_hasCopy 14 = .ok (.iload_n 1, 1) := by decide +kernel
theorem dT_hasCopy_15 : decode bT_hasCopy 15 = .ok (.iaload, 1) := by decide +kernel
theorem dT_hasCopy_16 : decode bT_hasCopy 16 = .ok (.iconst 3, 1) := by decide +kernel
theorem dT_hasCopy_17 : decode bT_hasCopy 17 = .ok (.if_icmp .ne 7, 3) := by decide +kernel
theorem dT_hasCopy_20 : decode bT_hasCopy 20 = .ok (.iconst 1, 1) := by decide +kernel
theorem dT_hasCopy_21 : decode bT_hasCopy 21 = .ok (.goto 4, 3) := by decide +kernel
theorem dT_hasCopy_24 : decode bT_hasCopy 24 = .ok (.iconst 0, 1) := by decide +kernel
theorem dT_hasCopy_25 : decode bT_hasCopy 25 = .ok (.ireturn, 1) := by decide +kernel
theorem dT_hasCopyOn_0 : decode bT_hasCopyOn 0 = .ok (.aload_n 0, 1) := by decide +kernel
theorem dT_hasCopyOn_1 : decode bT_hasCopyOn 1 = .ok (.iload_n 1, 1) := by decide +kernel
theorem dT_hasCopyOn_2 : decode bT_hasCopyOn 2 = .ok (.invokevirtual 140, 3) := by decide +kernel
theorem dT_hasCopyOn_5 : decode bT_hasCopyOn 5 = .ok (.ifCond .eq 17, 3) := by decide +kernel
theorem dT_hasCopyOn_8 : decode bT_hasCopyOn 8 = .ok (.aload_n 0, 1) := by decide +kernel
theorem dT_hasCopyOn_9 : decode bT_hasCopyOn 9 = .ok (.getfield 21, 3) := by decide +kernel
theorem dT_hasCopyOn_12 : decode bT_hasCopyOn 12 = .ok (.iload_n 1, 1) := by decide +kernel
theorem dT_hasCopyOn_13 : decode bT_hasCopyOn 13 = .ok (.iaload, 1) := by decide +kernel
theorem dT_hasCopyOn_14 : decode bT_hasCopyOn 14 = .ok (.iload_n 2, 1) := by decide +kernel
theorem dT_hasCopyOn_15 : decode bT_hasCopyOn 15 = .ok (.if_icmp .ne 7, 3) := by decide +kernel
theorem dT_hasCopyOn_18 : decode bT_hasCopyOn 18 = .ok (.iconst 1, 1) := by decide +kernel
theorem dT_hasCopyOn_19 : decode bT_hasCopyOn 19 = .ok (.goto 4, 3) := by decide +kernel
theorem dT_hasCopyOn_22 : decode bT_hasCopyOn 22 = .ok (.iconst 0, 1) := by decide +kernel
theorem dT_hasCopyOn_23 : decode bT_hasCopyOn 23 = .ok (.ireturn, 1) := by decide +kernel
theorem dT_use_0 : decode bT_use 0 = .ok (.aload_n 0, 1) := by decide +kernel
theorem dT_use_1 : decode bT_use 1 = .ok (.dup, 1) := by decide +kernel
theorem dT_use_2 : decode bT_use 2 = .ok (.getfield 34, 3) := by decide +kernel
theorem dT_use_5 : decode bT_use 5 = .ok (.iconst 1, 1) := by decide +kernel
theorem dT_use_6 : decode bT_use 6 = .ok (.iadd, 1) := by decide +kernel
theorem dT_use_7 : decode bT_use 7 = .ok (.putfield 34, 3) := by decide +kernel
theorem dT_use_10 : decode bT_use 10 = .ok (.aload_n 0, 1) := by decide +kernel
theorem dT_use_11 : decode bT_use 11 = .ok (.getfield 31, 3) := by decide +kernel
theorem dT_use_14 : decode bT_use 14 = .ok (.iload_n 1, 1) := by decide +kernel
theorem dT_use_15 : decode bT_use 15 = .ok (.aload_n 0, 1) := by decide +kernel
theorem dT_use_16 : decode bT_use 16 = .ok (.getfield 34, 3) := by decide +kernel
theorem dT_use_19 : decode bT_use 19 = .ok (.iastore, 1) := by decide +kernel
theorem dT_use_20 : decode bT_use 20 = .ok (.return_, 1) := by decide +kernel
theorem dT_usedSince_0 : decode bT_usedSince 0 = .ok (.iconst 0, 1) := by decide +kernel
theorem dT_usedSince_1 : decode bT_usedSince 1 = .ok (.istore_n 2, 1) := by decide +kernel
theorem dT_usedSince_2 : decode bT_usedSince 2 = .ok (.iconst 0, 1) := by decide +kernel
theorem dT_usedSince_3 : decode bT_usedSince 3 = .ok (.istore_n 3, 1) := by decide +kernel
theorem dT_usedSince_4 : decode bT_usedSince 4 = .ok (.iload_n 3, 1) := by decide +kernel
theorem dT_usedSince_5 : decode bT_usedSince 5 = .ok (.bipush 16, 2) := by decide +kernel
theorem dT_usedSince_7 : decode bT_usedSince 7 = .ok (.if_icmp .ge 36, 3) := by decide +kernel
theorem dT_usedSince_10 : decode bT_usedSince 10 = .ok (.aload_n 0, 1) := by decide +kernel
theorem dT_usedSince_11 : decode bT_usedSince 11 = .ok (.getfield 9, 3) := by decide +kernel
theorem dT_usedSince_14 : decode bT_usedSince 14 = .ok (.iload_n 3, 1) := by decide +kernel
theorem dT_usedSince_15 : decode bT_usedSince 15 = .ok (.iaload, 1) := by decide +kernel
theorem dT_usedSince_16 : decode bT_usedSince 16 = .ok (.ifCond .eq 21, 3) := by decide +kernel
theorem dT_usedSince_19 : decode bT_usedSince 19 = .ok (.aload_n 0, 1) := by decide +kernel
theorem dT_usedSince_20 : decode bT_usedSince 20 = .ok (.getfield 31, 3) := by decide +kernel
theorem dT_usedSince_23 : decode bT_usedSince 23 = .ok (.iload_n 3, 1) := by decide +kernel
theorem dT_usedSince_24 : decode bT_usedSince 24 = .ok (.iaload, 1) := by decide +kernel
theorem dT_usedSince_25 : decode bT_usedSince 25 = .ok (.aload_n 0, 1) := by decide +kernel
theorem dT_usedSince_26 : decode bT_usedSince 26 = .ok (.getfield 31, 3) := by decide +kernel
theorem dT_usedSince_29 : decode bT_usedSince 29 = .ok (.iload_n 1, 1) := by decide +kernel
theorem dT_usedSince_30 : decode bT_usedSince 30 = .ok (.iaload, 1) := by decide +kernel
theorem dT_usedSince_31 : decode bT_usedSince 31 = .ok (.if_icmp .le 6, 3) := by decide +kernel
theorem dT_usedSince_34 : decode bT_usedSince 34 = .ok (.iinc 2 1, 3) := by decide +kernel
theorem dT_usedSince_37 : decode bT_usedSince 37 = .ok (.iinc 3 1, 3) := by decide +kernel
theorem dT_usedSince_40 : decode bT_usedSince 40 = .ok (.goto (-36), 3) := by decide +kernel
theorem dT_usedSince_43 : decode bT_usedSince 43 = .ok (.iload_n 2, 1) := by decide +kernel
theorem dT_usedSince_44 : decode bT_usedSince 44 = .ok (.ireturn, 1) := by decide +kernel
theorem dT_longestUnused_0 : decode bT_longestUnused 0 = .ok (.iconst (-1), 1) := by decide +kernel
theorem dT_longestUnused_1 : decode bT_longestUnused 1 = .ok (.istore_n 2, 1) := by decide +kernel
theorem dT_longestUnused_2 : decode bT_longestUnused 2 = .ok (.iconst 0, 1) := by decide +kernel
theorem dT_longestUnused_3 : decode bT_longestUnused 3 = .ok (.istore_n 3, 1) := by decide +kernel
theorem dT_longestUnused_4 : decode bT_longestUnused 4 = .ok (.iload_n 3, 1) := by decide +kernel
theorem dT_longestUnused_5 : decode bT_longestUnused 5 = .ok (.bipush 16, 2) := by decide +kernel
theorem dT_longestUnused_7 : decode bT_longestUnused 7 = .ok (.if_icmp .ge 41, 3) := by decide +kernel
theorem dT_longestUnused_10 : decode bT_longestUnused 10 = .ok (.aload_n 0, 1) := by decide +kernel
theorem dT_longestUnused_11 : decode bT_longestUnused 11 = .ok (.getfield 9, 3) := by decide +kernel
theorem dT_longestUnused_14 : decode bT_longestUnused 14 = .ok (.iload_n 3, 1) := by decide +kernel
theorem dT_longestUnused_15 : decode bT_longestUnused 15 = .ok (.iaload, 1) := by decide +kernel
theorem dT_longestUnused_16 : decode bT_longestUnused 16 = .ok (.iload_n 1, 1) := by decide +kernel
theorem dT_longestUnused_17 : decode bT_longestUnused 17 = .ok (.if_icmp .ne 25, 3) := by decide +kernel
theorem dT_longestUnused_20 : decode bT_longestUnused 20 = .ok (.iload_n 2, 1) := by decide +kernel
theorem dT_longestUnused_21 : decode bT_longestUnused 21 = .ok (.iconst (-1), 1) := by decide +kernel
theorem dT_longestUnused_22 : decode bT_longestUnused 22 = .ok (.if_icmp .eq 18, 3) := by decide +kernel
theorem dT_longestUnused_25 : decode bT_longestUnused 25 = .ok (.aload_n 0, 1) := by decide +kernel
theorem dT_longestUnused_26 : decode bT_longestUnused 26 = .ok (.getfield 31, 3) := by decide +kernel
theorem dT_longestUnused_29 : decode bT_longestUnused 29 = .ok (.iload_n 3, 1) := by decide +kernel
theorem dT_longestUnused_30 : decode bT_longestUnused 30 = .ok (.iaload, 1) := by decide +kernel
theorem dT_longestUnused_31 : decode bT_longestUnused 31 = .ok (.aload_n 0, 1) := by decide +kernel
theorem dT_longestUnused_32 : decode bT_longestUnused 32 = .ok (.getfield 31, 3) := by decide +kernel
theorem dT_longestUnused_35 : decode bT_longestUnused 35 = .ok (.iload_n 2, 1) := by decide +kernel
theorem dT_longestUnused_36 : decode bT_longestUnused 36 = .ok (.iaload, 1) := by decide +kernel
theorem dT_longestUnused_37 : decode bT_longestUnused 37 = .ok (.if_icmp .ge 5, 3) := by decide +kernel
theorem dT_longestUnused_40 : decode bT_longestUnused 40 = .ok (.iload_n 3, 1) := by decide +kernel
theorem dT_longestUnused_41 : decode bT_longestUnused 41 = .ok (.istore_n 2, 1) := by decide +kernel
theorem dT_longestUnused_42 : decode bT_longestUnused 42 = .ok (.iinc 3 1, 3) := by decide +kernel
theorem dT_longestUnused_45 : decode bT_longestUnused 45 = .ok (.goto (-41), 3) := by decide +kernel
theorem dT_longestUnused_48 : decode bT_longestUnused 48 = .ok (.iload_n 2, 1) := by decide +kernel
theorem dT_longestUnused_49 : decode bT_longestUnused 49 = .ok (.ireturn, 1) := by decide +kernel
theorem dT_unitsTaken_0 : decode bT_unitsTaken 0 = .ok (.iconst 0, 1) := by decide +kernel
theorem dT_unitsTaken_1 : decode bT_unitsTaken 1 = .ok (.istore_n 1, 1) := by decide +kernel
theorem dT_unitsTaken_2 : decode bT_unitsTaken 2 = .ok (.iconst 0, 1) := by decide +kernel
theorem dT_unitsTaken_3 : decode bT_unitsTaken 3 = .ok (.istore_n 2, 1) := by decide +kernel
theorem dT_unitsTaken_4 : decode bT_unitsTaken 4 = .ok (.iload_n 2, 1) := by decide +kernel
theorem dT_unitsTaken_5 : decode bT_unitsTaken 5 = .ok (.bipush 16, 2) := by decide +kernel
theorem dT_unitsTaken_7 : decode bT_unitsTaken 7 = .ok (.if_icmp .ge 26, 3) := by decide +kernel
theorem dT_unitsTaken_10 : decode bT_unitsTaken 10 = .ok (.aload_n 0, 1) := by decide +kernel
theorem dT_unitsTaken_11 : decode bT_unitsTaken 11 = .ok (.iload_n 2, 1) := by decide +kernel
theorem dT_unitsTaken_12 : decode bT_unitsTaken 12 = .ok (.invokevirtual 158, 3) := by decide +kernel
theorem dT_unitsTaken_15 : decode bT_unitsTaken 15 = .ok (.ifCond .eq 12, 3) := by decide +kernel
theorem dT_unitsTaken_18 : decode bT_unitsTaken 18 = .ok (.iload_n 1, 1) := by decide +kernel
theorem dT_unitsTaken_19 : decode bT_unitsTaken 19 = .ok (.aload_n 0, 1) := by decide +kernel
theorem dT_unitsTaken_20 : decode bT_unitsTaken 20 = .ok (.getfield 13, 3) := by decide +kernel
theorem dT_unitsTaken_23 : decode bT_unitsTaken 23 = .ok (.iload_n 2, 1) := by decide +kernel
theorem dT_unitsTaken_24 : decode bT_unitsTaken 24 = .ok (.iaload, 1) := by decide +kernel
theorem dT_unitsTaken_25 : decode bT_unitsTaken 25 = .ok (.iadd, 1) := by decide +kernel
theorem dT_unitsTaken_26 : decode bT_unitsTaken 26 = .ok (.istore_n 1, 1) := by decide +kernel
theorem dT_unitsTaken_27 : decode bT_unitsTaken 27 = .ok (.iinc 2 1, 3) := by decide +kernel
theorem dT_unitsTaken_30 : decode bT_unitsTaken 30 = .ok (.goto (-26), 3) := by decide +kernel
theorem dT_unitsTaken_33 : decode bT_unitsTaken 33 = .ok (.iload_n 1, 1) := by decide +kernel
theorem dT_unitsTaken_34 : decode bT_unitsTaken 34 = .ok (.ireturn, 1) := by decide +kernel
theorem dT_liveUnits_0 : decode bT_liveUnits 0 = .ok (.iconst 0, 1) := by decide +kernel
theorem dT_liveUnits_1 : decode bT_liveUnits 1 = .ok (.istore_n 2, 1) := by decide +kernel
theorem dT_liveUnits_2 : decode bT_liveUnits 2 = .ok (.iconst 0, 1) := by decide +kernel
theorem dT_liveUnits_3 : decode bT_liveUnits 3 = .ok (.istore_n 3, 1) := by decide +kernel
theorem dT_liveUnits_4 : decode bT_liveUnits 4 = .ok (.iload_n 3, 1) := by decide +kernel
theorem dT_liveUnits_5 : decode bT_liveUnits 5 = .ok (.bipush 16, 2) := by decide +kernel
theorem dT_liveUnits_7 : decode bT_liveUnits 7 = .ok (.if_icmp .ge 27, 3) := by decide +kernel
theorem dT_liveUnits_10 : decode bT_liveUnits 10 = .ok (.aload_n 0, 1) := by decide +kernel
theorem dT_liveUnits_11 : decode bT_liveUnits 11 = .ok (.iload_n 3, 1) := by decide +kernel
theorem dT_liveUnits_12 : decode bT_liveUnits 12 = .ok (.iload_n 1, 1) := by decide +kernel
theorem dT_liveUnits_13 : decode bT_liveUnits 13 = .ok (.invokevirtual 134, 3) := by decide +kernel
theorem dT_liveUnits_16 : decode bT_liveUnits 16 = .ok (.ifCond .eq 12, 3) := by decide +kernel
theorem dT_liveUnits_19 : decode bT_liveUnits 19 = .ok (.iload_n 2, 1) := by decide +kernel
theorem dT_liveUnits_20 : decode bT_liveUnits 20 = .ok (.aload_n 0, 1) := by decide +kernel
theorem dT_liveUnits_21 : decode bT_liveUnits 21 = .ok (.getfield 13, 3) := by decide +kernel
theorem dT_liveUnits_24 : decode bT_liveUnits 24 = .ok (.iload_n 3, 1) := by decide +kernel
theorem dT_liveUnits_25 : decode bT_liveUnits 25 = .ok (.iaload, 1) := by decide +kernel
theorem dT_liveUnits_26 : decode bT_liveUnits 26 = .ok (.iadd, 1) := by decide +kernel
theorem dT_liveUnits_27 : decode bT_liveUnits 27 = .ok (.istore_n 2, 1) := by decide +kernel
theorem dT_liveUnits_28 : decode bT_liveUnits 28 = .ok (.iinc 3 1, 3) := by decide +kernel
theorem dT_liveUnits_31 : decode bT_liveUnits 31 = .ok (.goto (-27), 3) := by decide +kernel
theorem dT_liveUnits_34 : decode bT_liveUnits 34 = .ok (.iload_n 2, 1) := by decide +kernel
theorem dT_liveUnits_35 : decode bT_liveUnits 35 = .ok (.ireturn, 1) := by decide +kernel
theorem dT_filesWaiting_0 : decode bT_filesWaiting 0 = .ok (.iconst 0, 1) := by decide +kernel
theorem dT_filesWaiting_1 : decode bT_filesWaiting 1 = .ok (.istore_n 1, 1) := by decide +kernel
theorem dT_filesWaiting_2 : decode bT_filesWaiting 2 = .ok (.iconst 0, 1) := by decide +kernel
theorem dT_filesWaiting_3 : decode bT_filesWaiting 3 = .ok (.istore_n 2, 1) := by decide +kernel
theorem dT_filesWaiting_4 : decode bT_filesWaiting 4 = .ok (.iload_n 2, 1) := by decide +kernel
theorem dT_filesWaiting_5 : decode bT_filesWaiting 5 = .ok (.bipush 16, 2) := by decide +kernel
theorem dT_filesWaiting_7 : decode bT_filesWaiting 7 = .ok (.if_icmp .ge 21, 3) := by decide +kernel
theorem dT_filesWaiting_10 : decode bT_filesWaiting 10 = .ok (.aload_n 0, 1) := by decide +kernel
theorem dT_filesWaiting_11 : decode bT_filesWaiting 11 = .ok (.getfield 27, 3) := by decide +kernel
theorem dT_filesWaiting_14 : decode bT_filesWaiting 14 = .ok (.iload_n 2, 1) := by decide +kernel
theorem dT_filesWaiting_15 : decode bT_filesWaiting 15 = .ok (.baload, 1) := by decide +kernel
theorem dT_filesWaiting_16 : decode bT_filesWaiting 16 = .ok (.ifCond .eq 6, 3) := by decide +kernel
theorem dT_filesWaiting_19 : decode bT_filesWaiting 19 = .ok (.iinc 1 1, 3) := by decide +kernel
theorem dT_filesWaiting_22 : decode bT_filesWaiting 22 = .ok (.iinc 2 1, 3) := by decide +kernel
theorem dT_filesWaiting_25 : decode bT_filesWaiting 25 = .ok (.goto (-21), 3) := by decide +kernel
theorem dT_filesWaiting_28 : decode bT_filesWaiting 28 = .ok (.iload_n 1, 1) := by decide +kernel
theorem dT_filesWaiting_29 : decode bT_filesWaiting 29 = .ok (.ireturn, 1) := by decide +kernel
theorem dT_stubOldestDouble_0 : decode bT_stubOldestDouble 0 = .ok (.aload_n 0, 1) := by decide +kernel
theorem dT_stubOldestDouble_1 : decode bT_stubOldestDouble 1 = .ok (.iconst 2, 1) := by decide +kernel
theorem dT_stubOldestDouble_2 : decode bT_stubOldestDouble 2 = .ok (.invokevirtual 91, 3) := by decide +kernel
theorem dT_stubOldestDouble_5 : decode bT_stubOldestDouble 5 = .ok (.istore_n 1, 1) := by decide +kernel
theorem dT_stubOldestDouble_6 : decode bT_stubOldestDouble 6 = .ok (.iload_n 1, 1) := by decide +kernel
theorem dT_stubOldestDouble_7 : decode bT_stubOldestDouble 7 = .ok (.iconst (-1), 1) := by decide +kernel
theorem dT_stubOldestDouble_8 : decode bT_stubOldestDouble 8 = .ok (.if_icmp .ne 5, 3) := by decide +kernel
theorem dT_stubOldestDouble_11 : decode bT_stubOldestDouble 11 = .ok (.iconst 0, 1) := by decide +kernel
theorem dT_stubOldestDouble_12 : decode bT_stubOldestDouble 12 = .ok (.ireturn, 1) := by decide +kernel
theorem dT_stubOldestDouble_13 : decode bT_stubOldestDouble 13 = .ok (.aload_n 0, 1) := by decide +kernel
theorem dT_stubOldestDouble_14 : decode bT_stubOldestDouble 14 = .ok (.getfield 9, 3) := by decide +kernel
theorem dT_stubOldestDouble_17 : decode bT_stubOldestDouble 17 = .ok (.iload_n 1, 1) := by decide +kernel
theorem dT_stubOldestDouble_18 : decode bT_stubOldestDouble 18 = .ok (.iconst 3, 1) := by decide +kernel
theorem dT_stubOldestDouble_19 : decode bT_stubOldestDouble 19 = .ok (.iastore, 1) := by decide +kernel
theorem dT_stubOldestDouble_20 : decode bT_stubOldestDouble 20 = .ok (.iconst 1, 1) := by decide +kernel
theorem dT_stubOldestDouble_21 : decode bT_stubOldestDouble 21 = .ok (.ireturn, 1) := by decide +kernel
theorem dT_hasRoom_0 : decode bT_hasRoom 0 = .ok (.aload_n 0, 1) := by decide +kernel
theorem dT_hasRoom_1 : decode bT_hasRoom 1 = .ok (.getfield 53, 3) := by decide +kernel
theorem dT_hasRoom_4 : decode bT_hasRoom 4 = .ok (.aload_n 0, 1) := by decide +kernel
theorem dT_hasRoom_5 : decode bT_hasRoom 5 = .ok (.invokevirtual 105, 3) := by decide +kernel
theorem dT_hasRoom_8 : decode bT_hasRoom 8 = .ok (.isub, 1) := by decide +kernel
theorem dT_hasRoom_9 : decode bT_hasRoom 9 = .ok (.iload_n 1, 1) := by decide +kernel
theorem dT_hasRoom_10 : decode bT_hasRoom 10 = .ok (.if_icmp .lt 7, 3) := by decide +kernel
theorem dT_hasRoom_13 : decode bT_hasRoom 13 = .ok (.iconst 1, 1) := by decide +kernel
theorem dT_hasRoom_14 : decode bT_hasRoom 14 = .ok (.goto 4, 3) := by decide +kernel
theorem dT_hasRoom_17 : decode bT_hasRoom 17 = .ok (.iconst 0, 1) := by decide +kernel
theorem dT_hasRoom_18 : decode bT_hasRoom 18 = .ok (.ireturn, 1) := by decide +kernel
theorem dT_makeRoom_0 : decode bT_makeRoom 0 = .ok (.iconst 0, 1) := by decide +kernel
theorem dT_makeRoom_1 : decode bT_makeRoom 1 = .ok (.istore_n 2, 1) := by decide +kernel
theorem dT_makeRoom_2 : decode bT_makeRoom 2 = .ok (.iload_n 2, 1) := by decide +kernel
theorem dT_makeRoom_3 : decode bT_makeRoom 3 = .ok (.bipush 16, 2) := by decide +kernel
theorem dT_makeRoom_5 : decode bT_makeRoom 5 = .ok (.if_icmp .ge 26, 3) := by decide +kernel
theorem dT_makeRoom_8 : decode bT_makeRoom 8 = .ok (.aload_n 0, 1) := by decide +kernel
theorem dT_makeRoom_9 : decode bT_makeRoom 9 = .ok (.iload_n 1, 1) := by decide +kernel
theorem dT_makeRoom_10 : decode bT_makeRoom 10 = .ok (.invokevirtual 161, 3) := by decide +kernel
theorem dT_makeRoom_13 : decode bT_makeRoom 13 = .ok (.ifCond .ne 18, 3) := by decide +kernel
theorem dT_makeRoom_16 : decode bT_makeRoom 16 = .ok (.aload_n 0, 1) := by decide +kernel
theorem dT_makeRoom_17 : decode bT_makeRoom 17 = .ok (.invokevirtual 109, 3) := by decide +kernel
theorem dT_makeRoom_20 : decode bT_makeRoom 20 = .ok (.ifCond .ne 5, 3) := by decide +kernel
theorem dT_makeRoom_23 : decode bT_makeRoom 23 = .ok (.iconst 0, 1) := by decide +kernel
theorem dT_makeRoom_24 : decode bT_makeRoom 24 = .ok (.ireturn, 1) := by decide +kernel
theorem dT_makeRoom_25 : decode bT_makeRoom 25 = .ok (.iinc 2 1, 3) := by decide +kernel
theorem dT_makeRoom_28 : decode bT_makeRoom 28 = .ok (.goto (-26), 3) := by decide +kernel
theorem dT_makeRoom_31 : decode bT_makeRoom 31 = .ok (.aload_n 0, 1) := by decide +kernel
theorem dT_makeRoom_32 : decode bT_makeRoom 32 = .ok (.iload_n 1, 1) := by decide +kernel
theorem dT_makeRoom_33 : decode bT_makeRoom 33 = .ok (.invokevirtual 161, 3) := by decide +kernel
theorem dT_makeRoom_36 : decode bT_makeRoom 36 = .ok (.ireturn, 1) := by decide +kernel
theorem dT_bringToDisk_0 : decode bT_bringToDisk 0 = .ok (.aload_n 0, 1) := by decide +kernel
theorem dT_bringToDisk_1 : decode bT_bringToDisk 1 = .ok (.getfield 9, 3) := by decide +kernel
theorem dT_bringToDisk_4 : decode bT_bringToDisk 4 = .ok (.iload_n 1, 1) := by decide +kernel
theorem dT_bringToDisk_5 : decode bT_bringToDisk 5 = .ok (.iaload, 1) := by decide +kernel
theorem dT_bringToDisk_6 : decode bT_bringToDisk 6 = .ok (.iconst 3, 1) := by decide +kernel
theorem dT_bringToDisk_7 : decode bT_bringToDisk 7 = .ok (.if_icmp .eq 5, 3) := by decide +kernel
theorem dT_bringToDisk_10 : decode bT_bringToDisk 10 = .ok (.iconst 1, 1) := by decide +kernel
theorem dT_bringToDisk_11 : decode bT_bringToDisk 11 = .ok (.ireturn, 1) := by decide +kernel
theorem dT_bringToDisk_12 : decode bT_bringToDisk 12 = .ok (.aload_n 0, 1) := by decide +kernel
theorem dT_bringToDisk_13 : decode bT_bringToDisk 13 = .ok (.aload_n 0, 1) := by decide +kernel
theorem dT_bringToDisk_14 : decode bT_bringToDisk 14 = .ok (.getfield 13, 3) := by decide +kernel
theorem dT_bringToDisk_17 : decode bT_bringToDisk 17 = .ok (.iload_n 1, 1) := by decide +kernel
theorem dT_bringToDisk_18 : decode bT_bringToDisk 18 = .ok (.iaload, 1) := by decide +kernel
theorem dT_bringToDisk_19 : decode bT_bringToDisk 19 = .ok (.invokevirtual 69, 3) := by decide +kernel
theorem dT_bringToDisk_22 : decode bT_bringToDisk 22 = .ok (.ifCond .ne 5, 3) := by decide +kernel
theorem dT_bringToDisk_25 : decode bT_bringToDisk 25 = .ok (.iconst 0, 1) := by decide +kernel
theorem dT_bringToDisk_26 : decode bT_bringToDisk 26 = .ok (.ireturn, 1) := by decide +kernel
theorem dT_bringToDisk_27 : decode bT_bringToDisk 27 = .ok (.aload_n 0, 1) := by decide +kernel
theorem dT_bringToDisk_28 : decode bT_bringToDisk 28 = .ok (.getfield 61, 3) := by decide +kernel
theorem dT_bringToDisk_31 : decode bT_bringToDisk 31 = .ok (.aload_n 0, 1) := by decide +kernel
theorem dT_bringToDisk_32 : decode bT_bringToDisk 32 = .ok (.getfield 21, 3) := by decide +kernel
theorem dT_bringToDisk_35 : decode bT_bringToDisk 35 = .ok (.iload_n 1, 1) := by decide +kernel
theorem dT_bringToDisk_36 : decode bT_bringToDisk 36 = .ok (.iaload, 1) := by decide +kernel
theorem dT_bringToDisk_37 : decode bT_bringToDisk 37 = .ok (.aload_n 0, 1) := by decide +kernel
theorem dT_bringToDisk_38 : decode bT_bringToDisk 38 = .ok (.getfield 24, 3) := by decide +kernel
theorem dT_bringToDisk_41 : decode bT_bringToDisk 41 = .ok (.iload_n 1, 1) := by decide +kernel
theorem dT_bringToDisk_42 : decode bT_bringToDisk 42 = .ok (.iaload, 1) := by decide +kernel
theorem dT_bringToDisk_43 : decode bT_bringToDisk 43 = .ok (.aload_n 0, 1) := by decide +kernel
theorem dT_bringToDisk_44 : decode bT_bringToDisk 44 = .ok (.getfield 13, 3) := by decide +kernel
theorem dT_bringToDisk_47 : decode bT_bringToDisk 47 = .ok (.iload_n 1, 1) := by decide +kernel
theorem dT_bringToDisk_48 : decode bT_bringToDisk 48 = .ok (.iaload, 1) := by decide +kernel
theorem dT_bringToDisk_49 : decode bT_bringToDisk 49 = .ok (.invokevirtual 164, 3) := by decide +kernel
theorem dT_bringToDisk_52 : decode bT_bringToDisk 52 = .ok (.aload_n 0, 1) := by decide +kernel
theorem dT_bringToDisk_53 : decode bT_bringToDisk 53 = .ok (.getfield 9, 3) := by decide +kernel
theorem dT_bringToDisk_56 : decode bT_bringToDisk 56 = .ok (.iload_n 1, 1) := by decide +kernel
theorem dT_bringToDisk_57 : decode bT_bringToDisk 57 = .ok (.iconst 2, 1) := by decide +kernel
theorem dT_bringToDisk_58 : decode bT_bringToDisk 58 = .ok (.iastore, 1) := by decide +kernel
theorem dT_bringToDisk_59 : decode bT_bringToDisk 59 = .ok (.aload_n 0, 1) := by decide +kernel
theorem dT_bringToDisk_60 : decode bT_bringToDisk 60 = .ok (.iload_n 1, 1) := by decide +kernel
theorem dT_bringToDisk_61 : decode bT_bringToDisk 61 = .ok (.invokevirtual 72, 3) := by decide +kernel
theorem dT_bringToDisk_64 : decode bT_bringToDisk 64 = .ok (.iconst 1, 1) := by decide +kernel
theorem dT_bringToDisk_65 : decode bT_bringToDisk 65 = .ok (.ireturn, 1) := by decide +kernel
theorem dT_putCopy_0 : decode bT_putCopy 0 = .ok (.aload_n 0, 1) := by decide +kernel
theorem dT_putCopy_1 : decode bT_putCopy 1 = .ok (.getfield 21, 3) := by decide +kernel
theorem dT_putCopy_4 : decode bT_putCopy 4 = .ok (.iload_n 1, 1) := by decide +kernel
theorem dT_putCopy_5 : decode bT_putCopy 5 = .ok (.iload_n 2, 1) := by decide +kernel
theorem dT_putCopy_6 : decode bT_putCopy 6 = .ok (.iastore, 1) := by decide +kernel
theorem dT_putCopy_7 : decode bT_putCopy 7 = .ok (.aload_n 0, 1) := by decide +kernel
theorem dT_putCopy_8 : decode bT_putCopy 8 = .ok (.getfield 24, 3) := by decide +kernel
theorem dT_putCopy_11 : decode bT_putCopy 11 = .ok (.iload_n 1, 1) := by decide +kernel
theorem dT_putCopy_12 : decode bT_putCopy 12 = .ok (.aload_n 0, 1) := by decide +kernel
theorem dT_putCopy_13 : decode bT_putCopy 13 = .ok (.getfield 61, 3) := by decide +kernel
theorem dT_putCopy_16 : decode bT_putCopy 16 = .ok (.iload_n 2, 1) := by decide +kernel
theorem dT_putCopy_17 : decode bT_putCopy 17 = .ok (.aload_n 0, 1) := by decide +kernel
theorem dT_putCopy_18 : decode bT_putCopy 18 = .ok (.getfield 13, 3) := by decide +kernel
theorem dT_putCopy_21 : decode bT_putCopy 21 = .ok (.iload_n 1, 1) := by decide +kernel
theorem dT_putCopy_22 : decode bT_putCopy 22 = .ok (.iaload, 1) := by decide +kernel
theorem dT_putCopy_23 : decode bT_putCopy 23 = .ok (.invokevirtual 168, 3) := by decide +kernel
theorem dT_putCopy_26 : decode bT_putCopy 26 = .ok (.iastore, 1) := by decide +kernel
theorem dT_putCopy_27 : decode bT_putCopy 27 = .ok (.return_, 1) := by decide +kernel
theorem dT_moveCopy_0 : decode bT_moveCopy 0 = .ok (.aload_n 0, 1) := by decide +kernel
theorem dT_moveCopy_1 : decode bT_moveCopy 1 = .ok (.getfield 61, 3) := by decide +kernel
theorem dT_moveCopy_4 : decode bT_moveCopy 4 = .ok (.iload_n 2, 1) := by decide +kernel
theorem dT_moveCopy_5 : decode bT_moveCopy 5 = .ok (.aload_n 0, 1) := by decide +kernel
theorem dT_moveCopy_6 : decode bT_moveCopy 6 = .ok (.getfield 24, 3) := by decide +kernel
theorem dT_moveCopy_9 : decode bT_moveCopy 9 = .ok (.iload_n 1, 1) := by decide +kernel
theorem dT_moveCopy_10 : decode bT_moveCopy 10 = .ok (.iaload, 1) := by decide +kernel
theorem dT_moveCopy_11 : decode bT_moveCopy 11 = .ok (.aload_n 0, 1) := by decide +kernel
theorem dT_moveCopy_12 : decode bT_moveCopy 12 = .ok (.getfield 13, 3) := by decide +kernel
theorem dT_moveCopy_15 : decode bT_moveCopy 15 = .ok (.iload_n 1, 1) := by decide +kernel
theorem dT_moveCopy_16 : decode bT_moveCopy 16 = .ok (.iaload, 1) := by decide +kernel
theorem dT_moveCopy_17 : decode bT_moveCopy 17 = .ok (.invokevirtual 164, 3) := by decide +kernel
theorem dT_moveCopy_20 : decode bT_moveCopy 20 = .ok (.aload_n 0, 1) := by decide +kernel
theorem dT_moveCopy_21 : decode bT_moveCopy 21 = .ok (.getfield 61, 3) := by decide +kernel
theorem dT_moveCopy_24 : decode bT_moveCopy 24 = .ok (.aload_n 0, 1) := by decide +kernel
theorem dT_moveCopy_25 : decode bT_moveCopy 25 = .ok (.getfield 13, 3) := by decide +kernel
theorem dT_moveCopy_28 : decode bT_moveCopy 28 = .ok (.iload_n 1, 1) := by decide +kernel
theorem dT_moveCopy_29 : decode bT_moveCopy 29 = .ok (.iaload, 1) := by decide +kernel
theorem dT_moveCopy_30 : decode bT_moveCopy 30 = .ok (.iload_n 2, 1) := by decide +kernel
theorem dT_moveCopy_31 : decode bT_moveCopy 31 = .ok (.invokevirtual 95, 3) := by decide +kernel
theorem dT_moveCopy_34 : decode bT_moveCopy 34 = .ok (.istore_n 3, 1) := by decide +kernel
theorem dT_moveCopy_35 : decode bT_moveCopy 35 = .ok (.iload_n 3, 1) := by decide +kernel
theorem dT_moveCopy_36 : decode bT_moveCopy 36 = .ok (.iconst (-1), 1) := by decide +kernel
theorem dT_moveCopy_37 : decode bT_moveCopy 37 = .ok (.if_icmp .eq 9, 3) := by decide +kernel
theorem dT_moveCopy_40 : decode bT_moveCopy 40 = .ok (.aload_n 0, 1) := by decide +kernel
theorem dT_moveCopy_41 : decode bT_moveCopy 41 = .ok (.iload_n 1, 1) := by decide +kernel
theorem dT_moveCopy_42 : decode bT_moveCopy 42 = .ok (.iload_n 3, 1) := by decide +kernel
theorem dT_moveCopy_43 : decode bT_moveCopy 43 = .ok (.invokevirtual 98, 3) := by decide +kernel
theorem dT_moveCopy_46 : decode bT_moveCopy 46 = .ok (.return_, 1) := by decide +kernel
theorem dT_listedFitBeside_0 : decode bT_listedFitBeside 0 = .ok (.aload_n 0, 1) := by decide +kernel
theorem dT_listedFitBeside_1 : decode bT_listedFitBeside 1 = .ok (.getfield 61, 3) := by decide +kernel
theorem dT_listedFitBeside_4 : decode bT_listedFitBeside 4 = .ok (.invokevirtual 171, 3) := by decide +kernel
theorem dT_listedFitBeside_7 : decode bT_listedFitBeside 7 = .ok (.iconst 0, 1) := by decide +kernel
theorem dT_listedFitBeside_8 : decode bT_listedFitBeside 8 = .ok (.istore_n 2, 1) := by decide +kernel
theorem dT_listedFitBeside_9 : decode bT_listedFitBeside 9 = .ok (.iload_n 2, 1) := by decide +kernel
theorem dT_listedFitBeside_10 : decode bT_listedFitBeside 10 = .ok (.aload_n 0, 1) := by decide +kernel
theorem dT_listedFitBeside_11 : decode bT_listedFitBeside 11 = .ok (.getfield 41, 3) := by decide +kernel
theorem dT_listedFitBeside_14 : decode bT_listedFitBeside 14 = .ok (.if_icmp .ge 33, 3) := by decide +kernel
theorem dT_listedFitBeside_17 : decode bT_listedFitBeside 17 = .ok (.aload_n 0, 1) := by decide +kernel
theorem dT_listedFitBeside_18 : decode bT_listedFitBeside 18 = .ok (.getfield 61, 3) := by decide +kernel
theorem dT_listedFitBeside_21 : decode bT_listedFitBeside 21 = .ok (.iload_n 1, 1) := by decide +kernel
theorem dT_listedFitBeside_22 : decode bT_listedFitBeside 22 = .ok (.aload_n 0, 1) := by decide +kernel
theorem dT_listedFitBeside_23 : decode bT_listedFitBeside 23 = .ok (.getfield 13, 3) := by decide +kernel
theorem dT_listedFitBeside_26 : decode bT_listedFitBeside 26 = .ok (.aload_n 0, 1) := by decide +kernel
theorem dT_listedFitBeside_27 : decode bT_listedFitBeside 27 = .ok (.getfield 38, 3) := by decide +kernel
theorem dT_listedFitBeside_30 : decode bT_listedFitBeside 30 = .ok (.iload_n 2, 1) := by decide +kernel
theorem dT_listedFitBeside_31 : decode bT_listedFitBeside 31 = .ok (.iaload, 1) := by decide +kernel
theorem dT_listedFitBeside_32 : decode bT_listedFitBeside 32 = .ok (.iaload, 1) := by decide +kernel
theorem dT_listedFitBeside_33 : decode bT_listedFitBeside 33 = .ok (.invokevirtual 174, 3) := by decide +kernel
theorem dT_listedFitBeside_36 : decode bT_listedFitBeside 36 = .ok (.ifCond .ne 5, 3) := by decide +kernel
theorem dT_listedFitBeside_39 : decode bT_listedFitBeside 39 = .ok (.iconst 0, 1) := by decide +kernel
theorem dT_listedFitBeside_40 : decode bT_listedFitBeside 40 = .ok (.ireturn, 1) := by decide +kernel
theorem dT_listedFitBeside_41 : decode bT_listedFitBeside 41 = .ok (.iinc 2 1, 3) := by decide +kernel
theorem dT_listedFitBeside_44 : decode bT_listedFitBeside 44 = .ok (.goto (-35), 3) := by decide +kernel
theorem dT_listedFitBeside_47 : decode bT_listedFitBeside 47 = .ok (.iconst 1, 1) := by decide +kernel
theorem dT_listedFitBeside_48 : decode bT_listedFitBeside 48 = .ok (.ireturn, 1) := by decide +kernel
theorem dT_listWaitingStubs_0 : decode bT_listWaitingStubs 0 = .ok (.aload_n 0, 1) := by decide +kernel
theorem dT_listWaitingStubs_1 : decode bT_listWaitingStubs 1 = .ok (.iconst 0, 1) := by decide +kernel
theorem dT_listWaitingStubs_2 : decode bT_listWaitingStubs 2 = .ok (.putfield 41, 3) := by decide +kernel
theorem dT_listWaitingStubs_5 : decode bT_listWaitingStubs 5 = .ok (.aload_n 0, 1) := by decide +kernel
theorem dT_listWaitingStubs_6 : decode bT_listWaitingStubs 6 = .ok (.getfield 61, 3) := by decide +kernel
theorem dT_listWaitingStubs_9 : decode bT_listWaitingStubs 9 = .ok (.getfield 149, 3) := by decide +kernel
theorem dT_listWaitingStubs_12 : decode bT_listWaitingStubs 12 = .ok (.istore_n 1, 1) := by decide +kernel
theorem dT_listWaitingStubs_13 : decode bT_listWaitingStubs 13 = .ok (.iload_n 1, 1) := by decide +kernel
theorem dT_listWaitingStubs_14 : decode bT_listWaitingStubs 14 = .ok (.iconst (-1), 1) := by decide +kernel
theorem dT_listWaitingStubs_15 : decode bT_listWaitingStubs 15 = .ok (.if_icmp .eq 8, 3) := by decide +kernel
theorem dT_listWaitingStubs_18 : decode bT_listWaitingStubs 18 = .ok (.aload_n 0, 1) := by decide +kernel
theorem dT_listWaitingStubs_19 : decode bT_listWaitingStubs 19 = .ok (.iload_n 1, 1) := by decide +kernel
theorem dT_listWaitingStubs_20 : decode bT_listWaitingStubs 20 = .ok (.invokevirtual 122, 3) := by decide +kernel
theorem dT_listWaitingStubs_23 : decode bT_listWaitingStubs 23 = .ok (.iconst 0, 1) := by decide +kernel
theorem dT_listWaitingStubs_24 : decode bT_listWaitingStubs 24 = .ok (.istore_n 2, 1) := by decide +kernel
theorem dT_listWaitingStubs_25 : decode bT_listWaitingStubs 25 = .ok (.iload_n 2, 1) := by decide +kernel
theorem dT_listWaitingStubs_26 : decode bT_listWaitingStubs 26 = .ok (.iconst 4, 1) := by decide +kernel
theorem dT_listWaitingStubs_27 : decode bT_listWaitingStubs 27 = .ok (.if_icmp .ge 19, 3) := by decide +kernel
theorem dT_listWaitingStubs_30 : decode bT_listWaitingStubs 30 = .ok (.iload_n 2, 1) := by decide +kernel
theorem dT_listWaitingStubs_31 : decode bT_listWaitingStubs 31 = .ok (.iload_n 1, 1) := by decide +kernel
theorem dT_listWaitingStubs_32 : decode bT_listWaitingStubs 32 = .ok (.if_icmp .eq 8, 3) := by decide +kernel
theorem dT_listWaitingStubs_35 : decode bT_listWaitingStubs 35 = .ok (.aload_n 0, 1) := by decide +kernel
theorem dT_listWaitingStubs_36 : decode bT_listWaitingStubs 36 = .ok (.iload_n 2, 1) := by decide +kernel
theorem dT_listWaitingStubs_37 : decode bT_listWaitingStubs 37 = .ok (.invokevirtual 122, 3) := by decide +kernel
theorem dT_listWaitingStubs_40 : decode bT_listWaitingStubs 40 = .ok (.iinc 2 1, 3) := by decide +kernel
theorem dT_listWaitingStubs_43 : decode bT_listWaitingStubs 43 = .ok (.goto (-18), 3) := by decide +kernel
theorem dT_listWaitingStubs_46 : decode bT_listWaitingStubs 46 = .ok (.aload_n 0, 1) := by decide +kernel
theorem dT_listWaitingStubs_47 : decode bT_listWaitingStubs 47 = .ok (.invokevirtual 177, 3) := by decide +kernel
theorem dT_listWaitingStubs_50 : decode bT_listWaitingStubs 50 = .ok (.return_, 1) := by decide +kernel
theorem dT_listCopiesOn_0 : decode bT_listCopiesOn 0 = .ok (.iconst 0, 1) := by decide +kernel
theorem dT_listCopiesOn_1 : decode bT_listCopiesOn 1 = .ok (.istore_n 2, 1) := by decide +kernel
theorem dT_listCopiesOn_2 : decode bT_listCopiesOn 2 = .ok (.iload_n 2, 1) := by decide +kernel
theorem dT_listCopiesOn_3 : decode bT_listCopiesOn 3 = .ok (.aload_n 0, 1) := by decide +kernel
theorem dT_listCopiesOn_4 : decode bT_listCopiesOn 4 = .ok (.getfield 61, 3) := by decide +kernel
theorem dT_listCopiesOn_7 : decode bT_listCopiesOn 7 = .ok (.getfield 180, 3) := by decide +kernel
theorem dT_listCopiesOn_10 : decode bT_listCopiesOn 10 = .ok (.if_icmp .ge 50, 3) := by decide +kernel
theorem dT_listCopiesOn_13 : decode bT_listCopiesOn 13 = .ok (.aload_n 0, 1) := by decide +kernel
theorem dT_listCopiesOn_14 : decode bT_listCopiesOn 14 = .ok (.iload_n 1, 1) := by decide +kernel
theorem dT_listCopiesOn_15 : decode bT_listCopiesOn 15 = .ok (.iload_n 2, 1) := by decide +kernel
theorem dT_listCopiesOn_16 : decode bT_listCopiesOn 16 = .ok (.invokevirtual 183, 3) := by decide +kernel
theorem dT_listCopiesOn_19 : decode bT_listCopiesOn 19 = .ok (.istore_n 3, 1) := by decide +kernel
theorem dT_listCopiesOn_20 : decode bT_listCopiesOn 20 = .ok (.iload_n 3, 1) := by decide +kernel
theorem dT_listCopiesOn_21 : decode bT_listCopiesOn 21 = .ok (.iconst (-1), 1) := by decide +kernel
theorem dT_listCopiesOn_22 : decode bT_listCopiesOn 22 = .ok (.if_icmp .eq 32, 3) := by decide +kernel
theorem dT_listCopiesOn_25 : decode bT_listCopiesOn 25 = .ok (.aload_n 0, 1) := by decide +kernel
theorem dT_listCopiesOn_26 : decode bT_listCopiesOn 26 = .ok (.getfield 41, 3) := by decide +kernel
theorem dT_listCopiesOn_29 : decode bT_listCopiesOn 29 = .ok (.bipush 16, 2) := by decide +kernel
theorem dT_listCopiesOn_31 : decode bT_listCopiesOn 31 = .ok (.if_icmp .ge 23, 3) := by decide +kernel
theorem dT_listCopiesOn_34 : decode bT_listCopiesOn 34 = .ok (.aload_n 0, 1) := by decide +kernel
theorem dT_listCopiesOn_35 : decode bT_listCopiesOn 35 = .ok (.getfield 38, 3) := by decide +kernel
theorem dT_listCopiesOn_38 : decode bT_listCopiesOn 38 = .ok (.aload_n 0, 1) := by decide +kernel
theorem dT_listCopiesOn_39 : decode bT_listCopiesOn 39 = .ok (.getfield 41, 3) := by decide +kernel
theorem dT_listCopiesOn_42 : decode bT_listCopiesOn 42 = .ok (.iload_n 3, 1) := by decide +kernel
theorem dT_listCopiesOn_43 : decode bT_listCopiesOn 43 = .ok (.iastore, 1) := by decide +kernel
theorem dT_listCopiesOn_44 : decode bT_listCopiesOn 44 = .ok (.aload_n 0, 1) := by decide +kernel
theorem dT_listCopiesOn_45 : decode bT_listCopiesOn 45 = .ok (.dup, 1) := by decide +kernel
theorem dT_listCopiesOn_46 : decode bT_listCopiesOn 46 = .ok (.getfield 41, 3) := by decide +kernel
theorem dT_listCopiesOn_49 : decode bT_listCopiesOn 49 = .ok (.iconst 1, 1) := by decide +kernel
theorem dT_listCopiesOn_50 : decode bT_listCopiesOn 50 = .ok (.iadd, 1) := by decide +kernel
theorem dT_listCopiesOn_51 : decode bT_listCopiesOn 51 = .ok (.putfield 41, 3) := by decide +kernel
theorem dT_listCopiesOn_54 : decode bT_listCopiesOn 54 = .ok (.iinc 2 1, 3) := by decide +kernel
theorem dT_listCopiesOn_57 : decode bT_listCopiesOn 57 = .ok (.goto (-55), 3) := by decide +kernel
theorem dT_listCopiesOn_60 : decode bT_listCopiesOn 60 = .ok (.return_, 1) := by decide +kernel
theorem dT_fileWithCopyAt_0 : decode bT_fileWithCopyAt 0 = .ok (.iconst 0, 1) := by decide +kernel
theorem dT_fileWithCopyAt_1 : decode bT_fileWithCopyAt 1 = .ok (.istore_n 3, 1) := by decide +kernel
theorem dT_fileWithCopyAt_2 : decode bT_fileWithCopyAt 2 = .ok (.iload_n 3, 1) := by decide +kernel
theorem dT_fileWithCopyAt_3 : decode bT_fileWithCopyAt 3 = .ok (.bipush 16, 2) := by decide +kernel
theorem dT_fileWithCopyAt_5 : decode bT_fileWithCopyAt 5 = .ok (.if_icmp .ge 30, 3) := by decide +kernel
theorem dT_fileWithCopyAt_8 : decode bT_fileWithCopyAt 8 = .ok (.aload_n 0, 1) := by decide +kernel
theorem dT_fileWithCopyAt_9 : decode bT_fileWithCopyAt 9 = .ok (.iload_n 3, 1) := by decide +kernel
theorem dT_fileWithCopyAt_10 : decode bT_fileWithCopyAt 10 = .ok (.iload_n 1, 1) := by decide +kernel
theorem dT_fileWithCopyAt_11 : decode bT_fileWithCopyAt 11 = .ok (.invokevirtual 134, 3) := by decide +kernel
theorem dT_fileWithCopyAt_14 : decode bT_fileWithCopyAt 14 = .ok (.ifCond .eq 15, 3) := by decide +kernel
theorem dT_fileWithCopyAt_17 : decode bT_fileWithCopyAt 17 = .ok (.aload_n 0, 1) := by decide +kernel
theorem dT_fileWithCopyAt_18 : decode bT_fileWithCopyAt 18 = .ok (.getfield 24, 3) := by decide +kernel
theorem dT_fileWithCopyAt_21 : decode bT_fileWithCopyAt 21 = .ok (.iload_n 3, 1) := by decide +kernel
theorem dT_fileWithCopyAt_22 : decode bT_fileWithCopyAt 22 = .ok (.iaload, 1) := by decide +kernel
theorem dT_fileWithCopyAt_23 : decode bT_fileWithCopyAt 23 = .ok (.iload_n 2, 1) := by decide +kernel
theorem dT_fileWithCopyAt_24 : decode bT_fileWithCopyAt 24 = .ok (.if_icmp .ne 5, 3) := by decide +kernel
theorem dT_fileWithCopyAt_27 : decode bT_fileWithCopyAt 27 = .ok (.iload_n 3, 1) := by decide +kernel
theorem dT_fileWithCopyAt_28 : decode bT_fileWithCopyAt 28 = .ok (.ireturn, 1) := by decide +kernel
theorem dT_fileWithCopyAt_29 : decode bT_fileWithCopyAt 29 = .ok (.iinc 3 1, 3) := by decide +kernel
theorem dT_fileWithCopyAt_32 : decode bT_fileWithCopyAt 32 = .ok (.goto (-30), 3) := by decide +kernel
theorem dT_fileWithCopyAt_35 : decode bT_fileWithCopyAt 35 = .ok (.iconst (-1), 1) := by decide +kernel
theorem dT_fileWithCopyAt_36 : decode bT_fileWithCopyAt 36 = .ok (.ireturn, 1) := by decide +kernel
theorem dT_keepWaitingStubs_0 : decode bT_keepWaitingStubs 0 = .ok (.iconst 0, 1) := by decide +kernel
theorem dT_keepWaitingStubs_1 : decode bT_keepWaitingStubs 1 = .ok (.istore_n 1, 1) := by decide +kernel
theorem dT_keepWaitingStubs_2 : decode bT_keepWaitingStubs 2 = .ok (.iconst 0, 1) := by decide +kernel
theorem dT_keepWaitingStubs_3 : decode bT_keepWaitingStubs 3 = .ok (.istore_n 2, 1) := by decide +kernel
theorem dT_keepWaitingStubs_4 : decode bT_keepWaitingStubs 4 = .ok (.iload_n 2, 1) := by decide +kernel
theorem dT_keepWaitingStubs_5 : decode bT_keepWaitingStubs 5 = .ok (.aload_n 0, 1) := by decide +kernel
theorem dT_keepWaitingStubs_6 : decode bT_keepWaitingStubs 6 = .ok (.getfield 41, 3) := by decide +kernel
theorem dT_keepWaitingStubs_9 : decode bT_keepWaitingStubs 9 = .ok (.if_icmp .ge 45, 3) := by decide +kernel
theorem dT_keepWaitingStubs_12 : decode bT_keepWaitingStubs 12 = .ok (.aload_n 0, 1) := by decide +kernel
theorem dT_keepWaitingStubs_13 : decode bT_keepWaitingStubs 13 = .ok (.getfield 38, 3) := by decide +kernel
theorem dT_keepWaitingStubs_16 : decode bT_keepWaitingStubs 16 = .ok (.iload_n 2, 1) := by decide +kernel
theorem dT_keepWaitingStubs_17 : decode bT_keepWaitingStubs 17 = .ok (.iaload, 1) := by decide +kernel
theorem dT_keepWaitingStubs_18 : decode bT_keepWaitingStubs 18 = .ok (.istore_n 3, 1) := by decide +kernel
theorem dT_keepWaitingStubs_19 : decode bT_keepWaitingStubs 19 = .ok (.aload_n 0, 1) := by decide +kernel
theorem dT_keepWaitingStubs_20 : decode bT_keepWaitingStubs 20 = .ok (.getfield 27, 3) := by decide +kernel
theorem dT_keepWaitingStubs_23 : decode bT_keepWaitingStubs 23 = .ok (.iload_n 3, 1) := by decide +kernel
theorem dT_keepWaitingStubs_24 : decode bT_keepWaitingStubs 24 = .ok (.baload, 1) := by decide +kernel
theorem dT_keepWaitingStubs_25 : decode bT_keepWaitingStubs 25 = .ok (.ifCond .eq 23, 3) := by decide +kernel
theorem dT_keepWaitingStubs_28 : decode bT_keepWaitingStubs 28 = .ok (.aload_n 0, 1) := by decide +kernel
theorem dT_keepWaitingStubs_29 : decode bT_keepWaitingStubs 29 = .ok (.getfield 9, 3) := by decide +kernel
theorem dT_keepWaitingStubs_32 : decode bT_keepWaitingStubs 32 = .ok (.iload_n 3, 1) := by decide +kernel
theorem dT_keepWaitingStubs_33 : decode bT_keepWaitingStubs 33 = .ok (.iaload, 1) := by decide +kernel
theorem dT_keepWaitingStubs_34 : decode bT_keepWaitingStubs 34 = .ok (.iconst 3, 1) := by decide +kernel
theorem dT_keepWaitingStubs_35 : decode bT_keepWaitingStubs 35 = .ok (.if_icmp .ne 13, 3) := by decide +kernel
theorem dT_keepWaitingStubs_38 : decode bT_keepWaitingStubs 38 = .ok (.aload_n 0, 1) := by decide +kernel
theorem dT_keepWaitingStubs_39 : decode bT_keepWaitingStubs 39 = .ok (.getfield 38, 3) := by decide +kernel
theorem dT_keepWaitingStubs_42 : decode bT_keepWaitingStubs 42 = .ok (.iload_n 1, 1) := by decide +kernel
theorem dT_keepWaitingStubs_43 : decode bT_keepWaitingStubs 43 = .ok (.iload_n 3, 1) := by decide +kernel
theorem dT_keepWaitingStubs_44 : decode bT_keepWaitingStubs 44 = .ok (.iastore, 1) := by decide +kernel
theorem dT_keepWaitingStubs_45 : decode bT_keepWaitingStubs 45 = .ok (.iinc 1 1, 3) := by decide +kernel
theorem dT_keepWaitingStubs_48 : decode bT_keepWaitingStubs 48 = .ok (.iinc 2 1, 3) := by decide +kernel
theorem dT_keepWaitingStubs_51 : decode bT_keepWaitingStubs 51 = .ok (.goto (-47), 3) := by decide +kernel
theorem dT_keepWaitingStubs_54 : decode bT_keepWaitingStubs 54 = .ok (.aload_n 0, 1) := by decide +kernel
theorem dT_keepWaitingStubs_55 : decode bT_keepWaitingStubs 55 = .ok (.iload_n 1, 1) := by decide +kernel
theorem dT_keepWaitingStubs_56 : decode bT_keepWaitingStubs 56 = .ok (.putfield 41, 3) := by decide +kernel
theorem dT_keepWaitingStubs_59 : decode bT_keepWaitingStubs 59 = .ok (.return_, 1) := by decide +kernel
theorem dP_init_0 : decode bP_init 0 = .ok (.aload_n 0, 1) := by decide +kernel
theorem dP_init_1 : decode bP_init 1 = .ok (.invokespecial 3, 3) := by decide +kernel
theorem dP_init_4 : decode bP_init 4 = .ok (.aload_n 0, 1) := by decide +kernel
theorem dP_init_5 : decode bP_init 5 = .ok (.iconst 4, 1) := by decide +kernel
theorem dP_init_6 : decode bP_init 6 = .ok (.newarray .int, 2) := by decide +kernel
theorem dP_init_8 : decode bP_init 8 = .ok (.putfield 9, 3) := by decide +kernel
theorem dP_init_11 : decode bP_init 11 = .ok (.aload_n 0, 1) := by decide +kernel
theorem dP_init_12 : decode bP_init 12 = .ok (.iconst 4, 1) := by decide +kernel
theorem dP_init_13 : decode bP_init 13 = .ok (.newarray .int, 2) := by decide +kernel
theorem dP_init_15 : decode bP_init 15 = .ok (.putfield 15, 3) := by decide +kernel
theorem dP_init_18 : decode bP_init 18 = .ok (.aload_n 0, 1) := by decide +kernel
theorem dP_init_19 : decode bP_init 19 = .ok (.iconst (-1), 1) := by decide +kernel
theorem dP_init_20 : decode bP_init 20 = .ok (.putfield 18, 3) := by decide +kernel
theorem dP_init_23 : decode bP_init 23 = .ok (.aload_n 0, 1) := by decide +kernel
theorem dP_init_24 : decode bP_init 24 = .ok (.iconst 0, 1) := by decide +kernel
theorem dP_init_25 : decode bP_init 25 = .ok (.putfield 22, 3) := by decide +kernel
theorem dP_init_28 : decode bP_init 28 = .ok (.aload_n 0, 1) := by decide +kernel
theorem dP_init_29 : decode bP_init 29 = .ok (.iconst 0, 1) := by decide +kernel
theorem dP_init_30 : decode bP_init 30 = .ok (.putfield 25, 3) := by decide +kernel
theorem dP_init_33 : decode bP_init 33 = .ok (.aload_n 0, 1) := by decide +kernel
theorem dP_init_34 : decode bP_init 34 = .ok (.iload_n 1, 1) := by decide +kernel
theorem dP_init_35 : decode bP_init 35 = .ok (.putfield 28, 3) := by decide +kernel
theorem dP_init_38 : decode bP_init 38 = .ok (.return_, 1) := by decide +kernel
theorem dP_goTo_0 : decode bP_goTo 0 = .ok (.aload_n 0, 1) := by decide +kernel
theorem dP_goTo_1 : decode bP_goTo 1 = .ok (.getfield 18, 3) := by decide +kernel
theorem dP_goTo_4 : decode bP_goTo 4 = .ok (.iload_n 1, 1) := by decide +kernel
theorem dP_goTo_5 : decode bP_goTo 5 = .ok (.if_icmp .eq 24, 3) := by decide +kernel
theorem dP_goTo_8 : decode bP_goTo 8 = .ok (.aload_n 0, 1) := by decide +kernel
theorem dP_goTo_9 : decode bP_goTo 9 = .ok (.dup, 1) := by decide +kernel
theorem dP_goTo_10 : decode bP_goTo 10 = .ok (.getfield 25, 3) := by decide +kernel
theorem dP_goTo_13 : decode bP_goTo 13 = .ok (.bipush 20, 2) := by decide +kernel
theorem dP_goTo_15 : decode bP_goTo 15 = .ok (.iadd, 1) := by decide +kernel
theorem dP_goTo_16 : decode bP_goTo 16 = .ok (.putfield 25, 3) := by decide +kernel
theorem dP_goTo_19 : decode bP_goTo 19 = .ok (.aload_n 0, 1) := by decide +kernel
theorem dP_goTo_20 : decode bP_goTo 20 = .ok (.iload_n 1, 1) := by decide +kernel
theorem dP_goTo_21 : decode bP_goTo 21 = .ok (.putfield 18, 3) := by decide +kernel
theorem dP_goTo_24 : decode bP_goTo 24 = .ok (.aload_n 0, 1) := by decide +kernel
theorem dP_goTo_25 : decode bP_goTo 25 = .ok (.iconst 0, 1) := by decide +kernel
theorem dP_goTo_26 : decode bP_goTo 26 = .ok (.putfield 22, 3) := by decide +kernel
theorem dP_goTo_29 : decode bP_goTo 29 = .ok (.aload_n 0, 1) := by decide +kernel
theorem dP_goTo_30 : decode bP_goTo 30 = .ok (.dup, 1) := by decide +kernel
theorem dP_goTo_31 : decode bP_goTo 31 = .ok (.getfield 25, 3) := by decide +kernel
theorem dP_goTo_34 : decode bP_goTo 34 = .ok (.aload_n 0, 1) := by decide +kernel
theorem dP_goTo_35 : decode bP_goTo 35 = .ok (.getfield 22, 3) := by decide +kernel
theorem dP_goTo_38 : decode bP_goTo 38 = .ok (.iload_n 2, 1) := by decide +kernel
theorem dP_goTo_39 : decode bP_goTo 39 = .ok (.isub, 1) := by decide +kernel
theorem dP_goTo_40 : decode bP_goTo 40 = .ok (.invokestatic 31, 3) := by decide +kernel
theorem dP_goTo_43 : decode bP_goTo 43 = .ok (.iadd, 1) := by decide +kernel
theorem dP_goTo_44 : decode bP_goTo 44 = .ok (.putfield 25, 3) := by decide +kernel
theorem dP_goTo_47 : decode bP_goTo 47 = .ok (.aload_n 0, 1) := by decide +kernel
theorem dP_goTo_48 : decode bP_goTo 48 = .ok (.iload_n 2, 1) := by decide +kernel
theorem dP_goTo_49 : decode bP_goTo 49 = .ok (.putfield 22, 3) := by decide +kernel
theorem dP_goTo_52 : decode bP_goTo 52 = .ok (.return_, 1) := by decide +kernel
theorem dP_pass_0 : decode bP_pass 0 = .ok (.aload_n 0, 1) := by decide +kernel
theorem dP_pass_1 : decode bP_pass 1 = .ok (.iload_n 1, 1) := by decide +kernel
theorem dP_pass_2 : decode bP_pass 2 = .ok (.iload_n 2, 1) := by decide +kernel
theorem dP_pass_3 : decode bP_pass 3 = .ok (.invokevirtual 37, 3) := by decide +kernel
theorem dP_pass_6 : decode bP_pass 6 = .ok (.aload_n 0, 1) := by decide +kernel
theorem dP_pass_7 : decode bP_pass 7 = .ok (.dup, 1) := by decide +kernel
theorem dP_pass_8 : decode bP_pass 8 = .ok (.getfield 25, 3) := by decide +kernel
theorem dP_pass_11 : decode bP_pass 11 = .ok (.iload_n 3, 1) := by decide +kernel
theorem dP_pass_12 : decode bP_pass 12 = .ok (.iadd, 1) := by decide +kernel
theorem dP_pass_13 : decode bP_pass 13 = .ok (.putfield 25, 3) := by decide +kernel
theorem dP_pass_16 : decode bP_pass 16 = .ok (.aload_n 0, 1) := by decide +kernel
theorem dP_pass_17 : decode bP_pass 17 = .ok (.dup, 1) := by decide +kernel
theorem dP_pass_18 : decode bP_pass 18 = .ok (.getfield 22, 3) := by decide +kernel
theorem dP_pass_21 : decode bP_pass 21 = .ok (.iload_n 3, 1) := by decide +kernel
theorem dP_pass_22 : decode bP_pass 22 = .ok (.iadd, 1) := by decide +kernel
theorem dP_pass_23 : decode bP_pass 23 = .ok (.putfield 22, 3) := by decide +kernel
theorem dP_pass_26 : decode bP_pass 26 = .ok (.return_, 1) := by decide +kernel
theorem dP_append_0 : decode bP_append 0 = .ok (.aload_n 0, 1) := by decide +kernel
theorem dP_append_1 : decode bP_append 1 = .ok (.getfield 9, 3) := by decide +kernel
theorem dP_append_4 : decode bP_append 4 = .ok (.iload_n 1, 1) := by decide +kernel
theorem dP_append_5 : decode bP_append 5 = .ok (.iaload, 1) := by decide +kernel
theorem dP_append_6 : decode bP_append 6 = .ok (.istore_n 3, 1) := by decide +kernel
theorem dP_append_7 : decode bP_append 7 = .ok (.aload_n 0, 1) := by decide +kernel
theorem dP_append_8 : decode bP_append 8 = .ok (.iload_n 1, 1) := by decide +kernel
theorem dP_append_9 : decode bP_append 9 = .ok (.iload_n 3, 1) := by decide +kernel
theorem dP_append_10 : decode bP_append 10 = .ok (.iload_n 2, 1) := by decide +kernel
theorem dP_append_11 : decode bP_append 11 = .ok (.invokevirtual 41, 3) := by decide +kernel
theorem dP_append_14 : decode bP_append 14 = .ok (.aload_n 0, 1) := by decide +kernel
theorem dP_append_15 : decode bP_append 15 = .ok (.getfield 9, 3) := by decide +kernel
theorem dP_append_18 : decode bP_append 18 = .ok (.iload_n 1, 1) := by decide +kernel
theorem dP_append_19 : decode bP_append 19 = .ok (.dup2, 1) := by decide +kernel
theorem dP_append_20 : decode bP_append 20 = .ok (.iaload, 1) := by decide +kernel
theorem dP_append_21 : decode bP_append 21 = .ok (.iload_n 2, 1) := by decide +kernel
theorem dP_append_22 : decode bP_append 22 = .ok (.iadd, 1) := by decide +kernel
theorem dP_append_23 : decode bP_append 23 = .ok (.iastore, 1) := by decide +kernel
theorem dP_append_24 : decode bP_append 24 = .ok (.iload_n 3, 1) := by decide +kernel
theorem dP_append_25 : decode bP_append 25 = .ok (.ireturn, 1) := by decide +kernel
theorem dP_cartridgeFor_0 : decode bP_cartridgeFor 0 = .ok (.aload_n 0, 1) := by decide +kernel
theorem dP_cartridgeFor_1 : decode bP_cartridgeFor 1 = .ok (.getfield 18, 3) := by decide +kernel
theorem dP_cartridgeFor_4 : decode bP_cartridgeFor 4 = .ok (.iconst (-1), 1) := by decide +kernel
theorem dP_cartridgeFor_5 : decode bP_cartridgeFor 5 = .ok (.if_icmp .eq 34, 3) := by decide +kernel
theorem dP_cartridgeFor_8 : decode bP_cartridgeFor 8 = .ok (.aload_n 0, 1) := by decide +kernel
theorem dP_cartridgeFor_9 : decode bP_cartridgeFor 9 = .ok (.getfield 18, 3) := by decide +kernel
theorem dP_cartridgeFor_12 : decode bP_cartridgeFor 12 = .ok (.iload_n 2, 1) := by decide +kernel
theorem dP_cartridgeFor_13 : decode bP_cartridgeFor 13 = .ok (.if_icmp .eq 26, 3) := by decide +kernel
theorem dP_cartridgeFor_16 : decode bP_cartridgeFor 16 = .ok (.aload_n 0, 1) := by decide +kernel
theorem dP_cartridgeFor_17 : decode bP_cartridgeFor 17 = .ok (.getfield 9, 3) := by decide +kernel
theorem dP_cartridgeFor_20 : decode bP_cartridgeFor 20 = .ok (.aload_n 0, 1) := by decide +kernel
theorem dP_cartridgeFor_21 : decode bP_cartridgeFor 21 = .ok (.getfield 18, 3) := by decide +kernel
theorem dP_cartridgeFor_24 : decode bP_cartridgeFor 24 = .ok (.iaload, 1) := by decide +kernel
theorem dP_cartridgeFor_25 : decode bP_cartridgeFor 25 = .ok (.iload_n 1, 1) := by decide +kernel
theorem dP_cartridgeFor_26 : decode bP_cartridgeFor 26 = .ok (.iadd, 1) := by decide +kernel
theorem dP_cartridgeFor_27 : decode bP_cartridgeFor 27 = .ok (.aload_n 0, 1) := by decide +kernel
theorem dP_cartridgeFor_28 : decode bP_cartridgeFor 28 = .ok (.getfield 28, 3) := by decide +kernel
theorem dP_cartridgeFor_31 : decode bP_cartridgeFor 31 = .ok (.if_icmp .gt 8, 3) := by decide +kernel
theorem dP_cartridgeFor_34 : decode bP_cartridgeFor 34 = .ok (.aload_n 0, 1) := by decide +kernel
theorem dP_cartridgeFor_35 : decode bP_cartridgeFor 35 = .ok (.getfield 18, 3) := by decide +kernel
theorem dP_cartridgeFor_38 : decode bP_cartridgeFor 38 = .ok (.ireturn, 1) := by decide +kernel
theorem dP_cartridgeFor_39 : decode bP_cartridgeFor 39 = .ok (.aload_n 0, 1) := by decide +kernel
theorem dP_cartridgeFor_40 : decode bP_cartridgeFor 40 = .ok (.aload_n 0, 1) := by decide +kernel
theorem dP_cartridgeFor_41 : decode bP_cartridgeFor 41 = .ok (.getfield 9, 3) := by decide +kernel
theorem dP_cartridgeFor_44 : decode bP_cartridgeFor 44 = .ok (.iload_n 1, 1) := by decide +kernel
theorem dP_cartridgeFor_45 : decode bP_cartridgeFor 45 = .ok (.iload_n 2, 1) := by decide +kernel
theorem dP_cartridgeFor_46 : decode bP_cartridgeFor 46 = .ok (.invokevirtual 45, 3) := by decide +kernel
theorem dP_cartridgeFor_49 : decode bP_cartridgeFor 49 = .ok (.ireturn, 1) := by decide +kernel
theorem dP_firstFitting_0 : decode bP_firstFitting 0 = .ok (.iconst 0, 1) := by decide +kernel
theorem dP_firstFitting_1 : decode bP_firstFitting 1 = .ok (.istore 4, 2) := by decide +kernel
theorem dP_firstFitting_3 : decode bP_firstFitting 3 = .ok (.iload 4, 2) := by decide +kernel
theorem dP_firstFitting_5 : decode bP_firstFitting 5 = .ok (.iconst 4, 1) := by decide +kernel
theorem dP_firstFitting_6 : decode bP_firstFitting 6 = .ok (.if_icmp .ge 31, 3) := by decide +kernel
theorem dP_firstFitting_9 : decode bP_firstFitting 9 = .ok (.iload 4, 2) := by decide +kernel
theorem dP_firstFitting_11 : decode bP_firstFitting 11 = .ok (.iload_n 3, 1) := by decide +kernel
theorem dP_firstFitting_12 : decode bP_firstFitting 12 = .ok (.if_icmp .eq 19, 3) := by decide +kernel
theorem dP_firstFitting_15 : decode bP_firstFitting 15 = .ok (.aload_n 1, 1) := by decide +kernel
theorem dP_firstFitting_16 : decode bP_firstFitting 16 = .ok (.iload 4, 2) := by decide +kernel
theorem dP_firstFitting_18 : decode bP_firstFitting 18 = .ok (.iaload, 1) := by decide +kernel
theorem dP_firstFitting_19 : decode bP_firstFitting 19 = .ok (.iload_n 2, 1) := by decide +kernel
theorem dP_firstFitting_20 : decode bP_firstFitting 20 = .ok (.iadd, 1) := by decide +kernel
theorem dP_firstFitting_21 : decode bP_firstFitting 21 = .ok (.aload_n 0, 1) := by decide +kernel
theorem dP_firstFitting_22 : decode bP_firstFitting 22 = .ok (.getfield 28, 3) := by decide +kernel
theorem dP_firstFitting_25 : decode bP_firstFitting 25 = .ok (.if_icmp .gt 6, 3) := by decide +kernel
theorem dP_firstFitting_28 : decode bP_firstFitting 28 = .ok (.iload 4, 2) := by decide +kernel
theorem dP_firstFitting_30 : decode bP_firstFitting 30 = .ok (.ireturn, 1) := by decide +kernel
theorem dP_firstFitting_31 : decode bP_firstFitting 31 = .ok (.iinc 4 1, 3) := by decide +kernel
theorem dP_firstFitting_34 : decode bP_firstFitting 34 = .ok (.goto (-31), 3) := by decide +kernel
theorem dP_firstFitting_37 : decode bP_firstFitting 37 = .ok (.iconst (-1), 1) := by decide +kernel
theorem dP_firstFitting_38 : decode bP_firstFitting 38 = .ok (.ireturn, 1) := by decide +kernel
theorem dP_startTrial_0 : decode bP_startTrial 0 = .ok (.aload_n 0, 1) := by decide +kernel
theorem dP_startTrial_1 : decode bP_startTrial 1 = .ok (.getfield 9, 3) := by decide +kernel
theorem dP_startTrial_4 : decode bP_startTrial 4 = .ok (.iconst 0, 1) := by decide +kernel
theorem dP_startTrial_5 : decode bP_startTrial 5 = .ok (.aload_n 0, 1) := by decide +kernel
theorem dP_startTrial_6 : decode bP_startTrial 6 = .ok (.getfield 15, 3) := by decide +kernel
theorem dP_startTrial_9 : decode bP_startTrial 9 = .ok (.iconst 0, 1) := by decide +kernel
theorem dP_startTrial_10 : decode bP_startTrial 10 = .ok (.iconst 4, 1) := by decide +kernel
theorem dP_startTrial_11 : decode bP_startTrial 11 = .ok (.invokestatic 49, 3) := by decide +kernel
theorem dP_startTrial_14 : decode bP_startTrial 14 = .ok (.return_, 1) := by decide +kernel
theorem dP_tryBeside_0 : decode bP_tryBeside 0 = .ok (.aload_n 0, 1) := by decide +kernel
theorem dP_tryBeside_1 : decode bP_tryBeside 1 = .ok (.aload_n 0, 1) := by decide +kernel
theorem dP_tryBeside_2 : decode bP_tryBeside 2 = .ok (.getfield 15, 3) := by decide +kernel
theorem dP_tryBeside_5 : decode bP_tryBeside 5 = .ok (.iload_n 2, 1) := by decide +kernel
theorem dP_tryBeside_6 : decode bP_tryBeside 6 = .ok (.iload_n 1, 1) := by decide +kernel
theorem dP_tryBeside_7 : decode bP_tryBeside 7 = .ok (.invokevirtual 45, 3) := by decide +kernel
theorem dP_tryBeside_10 : decode bP_tryBeside 10 = .ok (.istore_n 3, 1) := by decide +kernel
theorem dP_tryBeside_11 : decode bP_tryBeside 11 = .ok (.iload_n 3, 1) := by decide +kernel
theorem dP_tryBeside_12 : decode bP_tryBeside 12 = .ok (.iconst (-1), 1) := by decide +kernel
theorem dP_tryBeside_13 : decode bP_tryBeside 13 = .ok (.if_icmp .ne 5, 3) := by decide +kernel
theorem dP_tryBeside_16 : decode bP_tryBeside 16 = .ok (.iconst 0, 1) := by decide +kernel
theorem dP_tryBeside_17 : decode bP_tryBeside 17 = .ok (.ireturn, 1) := by decide +kernel
theorem dP_tryBeside_18 : decode bP_tryBeside 18 = .ok (.aload_n 0, 1) := by decide +kernel
theorem dP_tryBeside_19 : decode bP_tryBeside 19 = .ok (.getfield 15, 3) := by decide +kernel
theorem dP_tryBeside_22 : decode bP_tryBeside 22 = .ok (.iload_n 3, 1) := by decide +kernel
theorem dP_tryBeside_23 : decode bP_tryBeside 23 = .ok (.dup2, 1) := by decide +kernel
theorem dP_tryBeside_24 : decode bP_tryBeside 24 = .ok (.iaload, 1) := by decide +kernel
theorem dP_tryBeside_25 : decode bP_tryBeside 25 = .ok (.iload_n 2, 1) := by decide +kernel
theorem dP_tryBeside_26 : decode bP_tryBeside 26 = .ok (.iadd, 1) := by decide +kernel
theorem dP_tryBeside_27 : decode bP_tryBeside 27 = .ok (.iastore, 1) := by decide +kernel
theorem dP_tryBeside_28 : decode bP_tryBeside 28 = .ok (.iconst 1, 1) := by decide +kernel
theorem dP_tryBeside_29 : decode bP_tryBeside 29 = .ok (.ireturn, 1) := by decide +kernel
theorem dP_replace_0 : decode bP_replace 0 = .ok (.aload_n 0, 1) := by decide +kernel
theorem dP_replace_1 : decode bP_replace 1 = .ok (.getfield 9, 3) := by decide +kernel
theorem dP_replace_4 : decode bP_replace 4 = .ok (.iload_n 1, 1) := by decide +kernel
theorem dP_replace_5 : decode bP_replace 5 = .ok (.iconst 0, 1) := by decide +kernel
theorem dP_replace_6 : decode bP_replace 6 = .ok (.iastore, 1) := by decide +kernel
theorem dP_replace_7 : decode bP_replace 7 = .ok (.aload_n 0, 1) := by decide +kernel
theorem dP_replace_8 : decode bP_replace 8 = .ok (.getfield 18, 3) := by decide +kernel
theorem dP_replace_11 : decode bP_replace 11 = .ok (.iload_n 1, 1) := by decide +kernel
theorem dP_replace_12 : decode bP_replace 12 = .ok (.if_icmp .ne 13, 3) := by decide +kernel
theorem dP_replace_15 : decode bP_replace 15 = .ok (.aload_n 0, 1) := by decide +kernel
theorem dP_replace_16 : decode bP_replace 16 = .ok (.iconst (-1), 1) := by decide +kernel
theorem dP_replace_17 : decode bP_replace 17 = .ok (.putfield 18, 3) := by decide +kernel
theorem dP_replace_20 : decode bP_replace 20 = .ok (.aload_n 0, 1) := by decide +kernel
theorem dP_replace_21 : decode bP_replace 21 = .ok (.iconst 0, 1) := by decide +kernel
theorem dP_replace_22 : decode bP_replace 22 = .ok (.putfield 22, 3) := by decide +kernel
theorem dP_replace_25 : decode bP_replace 25 = .ok (.return_, 1) := by decide +kernel
