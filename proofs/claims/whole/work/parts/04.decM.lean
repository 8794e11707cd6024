theorem dM_init_0 : decode bM_init 0 = .ok (.aload_n 0, 1) := by decide +kernel
theorem dM_init_1 : decode bM_init 1 = .ok (.invokespecial 1, 3) := by decide +kernel
theorem dM_init_4 : decode bM_init 4 = .ok (.aload_n 0, 1) := by decide +kernel
theorem dM_init_5 : decode bM_init 5 = .ok (.bipush 16, 2) := by decide +kernel
theorem dM_init_7 : decode bM_init 7 = .ok (.newarray .int, 2) := by decide +kernel
theorem dM_init_9 : decode bM_init 9 = .ok (.putfield 7, 3) := by decide +kernel
theorem dM_init_12 : decode bM_init 12 = .ok (.aload_n 0, 1) := by decide +kernel
theorem dM_init_13 : decode bM_init 13 = .ok (.bipush 16, 2) := by decide +kernel
theorem dM_init_15 : decode bM_init 15 = .ok (.newarray .int, 2) := by decide +kernel
theorem dM_init_17 : decode bM_init 17 = .ok (.putfield 13, 3) := by decide +kernel
theorem dM_init_20 : decode bM_init 20 = .ok (.aload_n 0, 1) := by decide +kernel
theorem dM_init_21 : decode bM_init 21 = .ok (.bipush 64, 2) := by decide +kernel
theorem dM_init_23 : decode bM_init 23 = .ok (.newarray .int, 2) := by decide +kernel
theorem dM_init_25 : decode bM_init 25 = .ok (.putfield 16, 3) := by decide +kernel
theorem dM_init_28 : decode bM_init 28 = .ok (.aload_n 0, 1) := by decide +kernel
theorem dM_init_29 : decode bM_init 29 = .ok (.bipush 16, 2) := by decide +kernel
theorem dM_init_31 : decode bM_init 31 = .ok (.newarray .int, 2) := by decide +kernel
theorem dM_init_33 : decode bM_init 33 = .ok (.putfield 19, 3) := by decide +kernel
theorem dM_init_36 : decode bM_init 36 = .ok (.aload_n 0, 1) := by decide +kernel
theorem dM_init_37 : decode bM_init 37 = .ok (.bipush 16, 2) := by decide +kernel
theorem dM_init_39 : decode bM_init 39 = .ok (.newarray .int, 2) := by decide +kernel
theorem dM_init_41 : decode bM_init 41 = .ok (.putfield 22, 3) := by decide +kernel
theorem dM_init_44 : decode bM_init 44 = .ok (.aload_n 0, 1) := by decide +kernel
theorem dM_init_45 : decode bM_init 45 = .ok (.bipush 16, 2) := by decide +kernel
theorem dM_init_47 : decode bM_init 47 = .ok (.newarray .int, 2) := by decide +kernel
theorem dM_init_49 : decode bM_init 49 = .ok (.putfield 25, 3) := by decide +kernel
theorem dM_init_52 : decode bM_init 52 = .ok (.aload_n 0, 1) := by decide +kernel
theorem dM_init_53 : decode bM_init 53 = .ok (.bipush 16, 2) := by decide +kernel
theorem dM_init_55 : decode bM_init 55 = .ok (.newarray .boolean, 2) := by decide +kernel
theorem dM_init_57 : decode bM_init 57 = .ok (.putfield 28, 3) := by decide +kernel
theorem dM_init_60 : decode bM_init 60 = .ok (.aload_n 0, 1) := by decide +kernel
theorem dM_init_61 : decode bM_init 61 = .ok (.iconst 4, 1) := by decide +kernel
theorem dM_init_62 : decode bM_init 62 = .ok (.newarray .int, 2) := by decide +kernel
theorem dM_init_64 : decode bM_init 64 = .ok (.putfield 32, 3) := by decide +kernel
theorem dM_init_67 : decode bM_init 67 = .ok (.aload_n 0, 1) := by decide +kernel
theorem dM_init_68 : decode bM_init 68 = .ok (.iconst 4, 1) := by decide +kernel
theorem dM_init_69 : decode bM_init 69 = .ok (.newarray .int, 2) := by decide +kernel
theorem dM_init_71 : decode bM_init 71 = .ok (.putfield 35, 3) := by decide +kernel
theorem dM_init_74 : decode bM_init 74 = .ok (.aload_n 0, 1) := by decide +kernel
theorem dM_init_75 : decode bM_init 75 = .ok (.bipush 16, 2) := by decide +kernel
theorem dM_init_77 : decode bM_init 77 = .ok (.newarray .int, 2) := by decide +kernel
theorem dM_init_79 : decode bM_init 79 = .ok (.putfield 38, 3) := by decide +kernel
theorem dM_init_82 : decode bM_init 82 = .ok (.aload_n 0, 1) := by decide +kernel
theorem dM_init_83 : decode bM_init 83 = .ok (.iconst (-1), 1) := by decide +kernel
theorem dM_init_84 : decode bM_init 84 = .ok (.putfield 41, 3) := by decide +kernel
theorem dM_init_87 : decode bM_init 87 = .ok (.aload_n 0, 1) := by decide +kernel
theorem dM_init_88 : decode bM_init 88 = .ok (.iload_n 1, 1) := by decide +kernel
theorem dM_init_89 : decode bM_init 89 = .ok (.iconst 4, 1) := by decide +kernel
theorem dM_init_90 : decode bM_init 90 = .ok (.if_icmp .ge 7, 3) := by decide +kernel
theorem dM_init_93 : decode bM_init 93 = .ok (.iconst 4, 1) := by decide +kernel
theorem dM_init_94 : decode bM_init 94 = .ok (.goto 15, 3) := by decide +kernel
theorem dM_init_97 : decode bM_init 97 = .ok (.iload_n 1, 1) := by decide +kernel
theorem dM_init_98 : decode bM_init 98 = .ok (.bipush 24, 2) := by decide +kernel
theorem dM_init_100 : decode bM_init 100 = .ok (.if_icmp .le 8, 3) := by decide +kernel
theorem dM_init_103 : decode bM_init 103 = .ok (.bipush 24, 2) := by decide +kernel
theorem dM_init_105 : decode bM_init 105 = .ok (.goto 4, 3) := by decide +kernel
theorem dM_init_108 : decode bM_init 108 = .ok (.iload_n 1, 1) := by decide +kernel
theorem dM_init_109 : decode bM_init 109 = .ok (.putfield 45, 3) := by decide +kernel
theorem dM_init_112 : decode bM_init 112 = .ok (.aload_n 0, 1) := by decide +kernel
theorem dM_init_113 : decode bM_init 113 = .ok (.iload_n 2, 1) := by decide +kernel
theorem dM_init_114 : decode bM_init 114 = .ok (.iconst 4, 1) := by decide +kernel
theorem dM_init_115 : decode bM_init 115 = .ok (.if_icmp .ge 7, 3) := by decide +kernel
theorem dM_init_118 : decode bM_init 118 = .ok (.iconst 4, 1) := by decide +kernel
theorem dM_init_119 : decode bM_init 119 = .ok (.goto 15, 3) := by decide +kernel
theorem dM_init_122 : decode bM_init 122 = .ok (.iload_n 2, 1) := by decide +kernel
theorem dM_init_123 : decode bM_init 123 = .ok (.bipush 20, 2) := by decide +kernel
theorem dM_init_125 : decode bM_init 125 = .ok (.if_icmp .le 8, 3) := by decide +kernel
theorem dM_init_128 : decode bM_init 128 = .ok (.bipush 20, 2) := by decide +kernel
theorem dM_init_130 : decode bM_init 130 = .ok (.goto 4, 3) := by decide +kernel
theorem dM_init_133 : decode bM_init 133 = .ok (.iload_n 2, 1) := by decide +kernel
theorem dM_init_134 : decode bM_init 134 = .ok (.putfield 48, 3) := by decide +kernel
theorem dM_init_137 : decode bM_init 137 = .ok (.return_, 1) := by decide +kernel
theorem dM_in_0 : decode bM_in 0 = .ok (.iload_n 0, 1) := by decide +kernel
theorem dM_in_1 : decode bM_in 1 = .ok (.ifCond .lt 12, 3) := by decide +kernel
theorem dM_in_4 : decode bM_in 4 = .ok (.iload_n 0, 1) := by decide +kernel
theorem dM_in_5 : decode bM_in 5 = .ok (.iload_n 1, 1) := by decide +kernel
theorem dM_in_6 : decode bM_in 6 = .ok (.if_icmp .ge 7, 3) := by decide +kernel
theorem dM_in_9 : decode bM_in 9 = .ok (.iconst 1, 1) := by decide +kernel
theorem dM_in_10 : decode bM_in 10 = .ok (.goto 4, 3) := by decide +kernel
theorem dM_in_13 : decode bM_in 13 = .ok (.iconst 0, 1) := by decide +kernel
theorem dM_in_14 : decode bM_in 14 = .ok (.ireturn, 1) := by decide +kernel
theorem dM_there_0 : decode bM_there 0 = .ok (.iload_n 1, 1) := by decide +kernel
theorem dM_there_1 : decode bM_there 1 = .ok (.bipush 16, 2) := by decide +kernel
theorem dM_there_3 : decode bM_there 3 = .ok (.invokestatic 51, 3) := by decide +kernel
theorem dM_there_6 : decode bM_there 6 = .ok (.ifCond .eq 16, 3) := by decide +kernel
theorem dM_there_9 : decode bM_there 9 = .ok (.aload_n 0, 1) := by decide +kernel
theorem dM_there_10 : decode bM_there 10 = .ok (.getfield 7, 3) := by decide +kernel
theorem dM_there_13 : decode bM_there 13 = .ok (.iload_n 1, 1) := by decide +kernel
theorem dM_there_14 : decode bM_there 14 = .ok (.iaload, 1) := by decide +kernel
theorem dM_there_15 : decode bM_there 15 = .ok (.ifCond .eq 7, 3) := by decide +kernel
theorem dM_there_18 : decode bM_there 18 = .ok (.iconst 1, 1) := by decide +kernel
theorem dM_there_19 : decode bM_there 19 = .ok (.goto 4, 3) := by decide +kernel
theorem dM_there_22 : decode bM_there 22 = .ok (.iconst 0, 1) := by decide +kernel
theorem dM_there_23 : decode bM_there 23 = .ok (.ireturn, 1) := by decide +kernel
theorem dM_taken_0 : decode bM_taken 0 = .ok (.iconst 0, 1) := by decide +kernel
theorem dM_taken_1 : decode bM_taken 1 = .ok (.istore_n 1, 1) := by decide +kernel
theorem dM_taken_2 : decode bM_taken 2 = .ok (.iconst 0, 1) := by decide +kernel
theorem dM_taken_3 : decode bM_taken 3 = .ok (.istore_n 2, 1) := by decide +kernel
theorem dM_taken_4 : decode bM_taken 4 = .ok (.iload_n 2, 1) := by decide +kernel
theorem dM_taken_5 : decode bM_taken 5 = .ok (.bipush 16, 2) := by decide +kernel
theorem dM_taken_7 : decode bM_taken 7 = .ok (.if_icmp .ge 38, 3) := by decide +kernel
theorem dM_taken_10 : decode bM_taken 10 = .ok (.aload_n 0, 1) := by decide +kernel
theorem dM_taken_11 : decode bM_taken 11 = .ok (.getfield 7, 3) := by decide +kernel
theorem dM_taken_14 : decode bM_taken 14 = .ok (.iload_n 2, 1) := by decide +kernel
theorem dM_taken_15 : decode bM_taken 15 = .ok (.iaload, 1) := by decide +kernel
theorem dM_taken_16 : decode bM_taken 16 = .ok (.iconst 1, 1) := by decide +kernel
theorem dM_taken_17 : decode bM_taken 17 = .ok (.if_icmp .eq 13, 3) := by decide +kernel
theorem dM_taken_20 : decode bM_taken 20 = .ok (.aload_n 0, 1) := by decide +kernel
theorem dM_taken_21 : decode bM_taken 21 = .ok (.getfield 7, 3) := by decide +kernel
theorem dM_taken_24 : decode bM_taken 24 = .ok (.iload_n 2, 1) := by decide +kernel
theorem dM_taken_25 : decode bM_taken 25 = .ok (.iaload, 1) := by decide +kernel
theorem dM_taken_26 : decode bM_taken 26 = .ok (.iconst 2, 1) := by decide +kernel
theorem dM_taken_27 : decode bM_taken 27 = .ok (.if_icmp .ne 12, 3) := by decide +kernel
theorem dM_taken_30 : decode bM_taken 30 = .ok (.iload_n 1, 1) := by decide +kernel
theorem dM_taken_31 : decode bM_taken 31 = .ok (.aload_n 0, 1) := by decide +kernel
theorem dM_taken_32 : decode bM_taken 32 = .ok (.getfield 13, 3) := by decide +kernel
theorem dM_taken_35 : decode bM_taken 35 = .ok (.iload_n 2, 1) := by decide +kernel
theorem dM_taken_36 : decode bM_taken 36 = .ok (.iaload, 1) := by decide +kernel
theorem dM_taken_37 : decode bM_taken 37 = .ok (.iadd, 1) := by decide +kernel
theorem dM_taken_38 : decode bM_taken 38 = .ok (.istore_n 1, 1) := by decide +kernel
theorem dM_taken_39 : decode bM_taken 39 = .ok (.iinc 2 1, 3) := by decide +kernel
theorem dM_taken_42 : decode bM_taken 42 = .ok (.goto (-38), 3) := by decide +kernel
theorem dM_taken_45 : decode bM_taken 45 = .ok (.iload_n 1, 1) := by decide +kernel
theorem dM_taken_46 : decode bM_taken 46 = .ok (.ireturn, 1) := by decide +kernel
theorem dM_use_0 : decode bM_use 0 = .ok (.aload_n 0, 1) := by decide +kernel
theorem dM_use_1 : decode bM_use 1 = .ok (.dup, 1) := by decide +kernel
theorem dM_use_2 : decode bM_use 2 = .ok (.getfield 55, 3) := by decide +kernel
theorem dM_use_5 : decode bM_use 5 = .ok (.iconst 1, 1) := by decide +kernel
theorem dM_use_6 : decode bM_use 6 = .ok (.iadd, 1) := by decide +kernel
theorem dM_use_7 : decode bM_use 7 = .ok (.putfield 55, 3) := by decide +kernel
theorem dM_use_10 : decode bM_use 10 = .ok (.aload_n 0, 1) := by decide +kernel
theorem dM_use_11 : decode bM_use 11 = .ok (.getfield 19, 3) := by decide +kernel
theorem dM_use_14 : decode bM_use 14 = .ok (.iload_n 1, 1) := by decide +kernel
theorem dM_use_15 : decode bM_use 15 = .ok (.aload_n 0, 1) := by decide +kernel
theorem dM_use_16 : decode bM_use 16 = .ok (.getfield 55, 3) := by decide +kernel
theorem dM_use_19 : decode bM_use 19 = .ok (.iastore, 1) := by decide +kernel
theorem dM_use_20 : decode bM_use 20 = .ok (.return_, 1) := by decide +kernel
theorem dM_oldest_0 : decode bM_oldest 0 = .ok (.iconst (-1), 1) := by decide +kernel
theorem dM_oldest_1 : decode bM_oldest 1 = .ok (.istore_n 2, 1) := by decide +kernel
theorem dM_oldest_2 : decode bM_oldest 2 = .ok (.iconst 0, 1) := by decide +kernel
theorem dM_oldest_3 : decode bM_oldest 3 = .ok (.istore_n 3, 1) := by decide +kernel
theorem dM_oldest_4 : decode bM_oldest 4 = .ok (.iload_n 3, 1) := by decide +kernel
theorem dM_oldest_5 : decode bM_oldest 5 = .ok (.bipush 16, 2) := by decide +kernel
theorem dM_oldest_7 : decode bM_oldest 7 = .ok (.if_icmp .ge 40, 3) := by decide +kernel
theorem dM_oldest_10 : decode bM_oldest 10 = .ok (.aload_n 0, 1) := by decide +kernel
theorem dM_oldest_11 : decode bM_oldest 11 = .ok (.getfield 7, 3) := by decide +kernel
theorem dM_oldest_14 : decode bM_oldest 14 = .ok (.iload_n 3, 1) := by decide +kernel
theorem dM_oldest_15 : decode bM_oldest 15 = .ok (.iaload, 1) := by decide +kernel
theorem dM_oldest_16 : decode bM_oldest 16 = .ok (.iload_n 1, 1) := by decide +kernel
theorem dM_oldest_17 : decode bM_oldest 17 = .ok (.if_icmp .ne 24, 3) := by decide +kernel
theorem dM_oldest_20 : decode bM_oldest 20 = .ok (.iload_n 2, 1) := by decide +kernel
theorem dM_oldest_21 : decode bM_oldest 21 = .ok (.ifCond .lt 18, 3) := by decide +kernel
theorem dM_oldest_24 : decode bM_oldest 24 = .ok (.aload_n 0, 1) := by decide +kernel
theorem dM_oldest_25 : decode bM_oldest 25 = .ok (.getfield 19, 3) := by decide +kernel
theorem dM_oldest_28 : decode bM_oldest 28 = .ok (.iload_n 3, 1) := by decide +kernel
theorem dM_oldest_29 : decode bM_oldest 29 = .ok (.iaload, 1) := by decide +kernel
theorem dM_oldest_30 : decode bM_oldest 30 = .ok (.aload_n 0, 1) := by decide +kernel
theorem dM_oldest_31 : decode bM_oldest 31 = .ok (.getfield 19, 3) := by decide +kernel
theorem dM_oldest_34 : decode bM_oldest 34 = .ok (.iload_n 2, 1) := by decide +kernel
theorem dM_oldest_35 : decode bM_oldest 35 = .ok (.iaload, 1) := by decide +kernel
theorem dM_oldest_36 : decode bM_oldest 36 = .ok (.if_icmp .ge 5, 3) := by decide +kernel
theorem dM_oldest_39 : decode bM_oldest 39 = .ok (.iload_n 3, 1) := by decide +kernel
theorem dM_oldest_40 : decode bM_oldest 40 = .ok (.istore_n 2, 1) := by decide +kernel
theorem dM_oldest_41 : decode bM_oldest 41 = .ok (.iinc 3 1, 3) := by decide +kernel
theorem dM_oldest_44 : decode bM_oldest 44 = .ok (.goto (-40), 3) := by decide +kernel
theorem dM_oldest_47 : decode bM_oldest 47 = .ok (.iload_n 2, 1) := by decide +kernel
theorem dM_oldest_48 : decode bM_oldest 48 = .ok (.ireturn, 1) := by decide +kernel
theorem dM_makeRoom_0 : decode bM_makeRoom 0 = .ok (.iconst 0, 1) := by decide +kernel
theorem dM_makeRoom_1 : decode bM_makeRoom 1 = .ok (.istore_n 2, 1) := by decide +kernel
theorem dM_makeRoom_2 : decode bM_makeRoom 2 = .ok (.iload_n 2, 1) := by decide +kernel
theorem dM_makeRoom_3 : decode bM_makeRoom 3 = .ok (.bipush 16, 2) := by decide +kernel
theorem dM_makeRoom_5 : decode bM_makeRoom 5 = .ok (.if_icmp .ge 39, 3) := by decide +kernel
theorem dM_makeRoom_8 : decode bM_makeRoom 8 = .ok (.aload_n 0, 1) := by decide +kernel
theorem dM_makeRoom_9 : decode bM_makeRoom 9 = .ok (.getfield 45, 3) := by decide +kernel
theorem dM_makeRoom_12 : decode bM_makeRoom 12 = .ok (.aload_n 0, 1) := by decide +kernel
theorem dM_makeRoom_13 : decode bM_makeRoom 13 = .ok (.invokevirtual 58, 3) := by decide +kernel
theorem dM_makeRoom_16 : decode bM_makeRoom 16 = .ok (.isub, 1) := by decide +kernel
theorem dM_makeRoom_17 : decode bM_makeRoom 17 = .ok (.iload_n 1, 1) := by decide +kernel
theorem dM_makeRoom_18 : decode bM_makeRoom 18 = .ok (.if_icmp .ge 26, 3) := by decide +kernel
theorem dM_makeRoom_21 : decode bM_makeRoom 21 = .ok (.aload_n 0, 1) := by decide +kernel
theorem dM_makeRoom_22 : decode bM_makeRoom 22 = .ok (.iconst 2, 1) := by decide +kernel
theorem dM_makeRoom_23 : decode bM_makeRoom 23 = .ok (.invokevirtual 62, 3) := by decide +kernel
theorem dM_makeRoom_26 : decode bM_makeRoom 26 = .ok (.istore_n 3, 1) := by decide +kernel
theorem dM_makeRoom_27 : decode bM_makeRoom 27 = .ok (.iload_n 3, 1) := by decide +kernel
theorem dM_makeRoom_28 : decode bM_makeRoom 28 = .ok (.ifCond .lt 10, 3) := by decide +kernel
theorem dM_makeRoom_31 : decode bM_makeRoom 31 = .ok (.aload_n 0, 1) := by decide +kernel
theorem dM_makeRoom_32 : decode bM_makeRoom 32 = .ok (.getfield 7, 3) := by decide +kernel
theorem dM_makeRoom_35 : decode bM_makeRoom 35 = .ok (.iload_n 3, 1) := by decide +kernel
theorem dM_makeRoom_36 : decode bM_makeRoom 36 = .ok (.iconst 3, 1) := by decide +kernel
theorem dM_makeRoom_37 : decode bM_makeRoom 37 = .ok (.iastore, 1) := by decide +kernel
theorem dM_makeRoom_38 : decode bM_makeRoom 38 = .ok (.iinc 2 1, 3) := by decide +kernel
theorem dM_makeRoom_41 : decode bM_makeRoom 41 = .ok (.goto (-39), 3) := by decide +kernel
theorem dM_makeRoom_44 : decode bM_makeRoom 44 = .ok (.aload_n 0, 1) := by decide +kernel
theorem dM_makeRoom_45 : decode bM_makeRoom 45 = .ok (.getfield 45, 3) := by decide +kernel
theorem dM_makeRoom_48 : decode bM_makeRoom 48 = .ok (.aload_n 0, 1) := by decide +kernel
theorem dM_makeRoom_49 : decode bM_makeRoom 49 = .ok (.invokevirtual 58, 3) := by decide +kernel
theorem dM_makeRoom_52 : decode bM_makeRoom 52 = .ok (.isub, 1) := by decide +kernel
theorem dM_makeRoom_53 : decode bM_makeRoom 53 = .ok (.iload_n 1, 1) := by decide +kernel
theorem dM_makeRoom_54 : decode bM_makeRoom 54 = .ok (.if_icmp .lt 7, 3) := by decide +kernel
theorem dM_makeRoom_57 : decode bM_makeRoom 57 = .ok (.iconst 1, 1) := by decide +kernel
theorem dM_makeRoom_58 : decode bM_makeRoom 58 = .ok (.goto 4, 3) := by decide +kernel
theorem dM_makeRoom_61 : decode bM_makeRoom 61 = .ok (.iconst 0, 1) := by decide +kernel
theorem dM_makeRoom_62 : decode bM_makeRoom 62 = .ok (.ireturn, 1) := by decide +kernel
theorem dM_move_0 : decode bM_move 0 = .ok (.aload_n 0, 1) := by decide +kernel
theorem dM_move_1 : decode bM_move 1 = .ok (.getfield 41, 3) := by decide +kernel
theorem dM_move_4 : decode bM_move 4 = .ok (.iload_n 1, 1) := by decide +kernel
theorem dM_move_5 : decode bM_move 5 = .ok (.if_icmp .eq 24, 3) := by decide +kernel
theorem dM_move_8 : decode bM_move 8 = .ok (.aload_n 0, 1) := by decide +kernel
theorem dM_move_9 : decode bM_move 9 = .ok (.dup, 1) := by decide +kernel
theorem dM_move_10 : decode bM_move 10 = .ok (.getfield 66, 3) := by decide +kernel
theorem dM_move_13 : decode bM_move 13 = .ok (.bipush 20, 2) := by decide +kernel
theorem dM_move_15 : decode bM_move 15 = .ok (.iadd, 1) := by decide +kernel
theorem dM_move_16 : decode bM_move 16 = .ok (.putfield 66, 3) := by decide +kernel
theorem dM_move_19 : decode bM_move 19 = .ok (.aload_n 0, 1) := by decide +kernel
theorem dM_move_20 : decode bM_move 20 = .ok (.iload_n 1, 1) := by decide +kernel
theorem dM_move_21 : decode bM_move 21 = .ok (.putfield 41, 3) := by decide +kernel
theorem dM_move_24 : decode bM_move 24 = .ok (.aload_n 0, 1) := by decide +kernel
theorem dM_move_25 : decode bM_move 25 = .ok (.iconst 0, 1) := by decide +kernel
theorem dM_move_26 : decode bM_move 26 = .ok (.putfield 69, 3) := by decide +kernel
theorem dM_move_29 : decode bM_move 29 = .ok (.aload_n 0, 1) := by decide +kernel
theorem dM_move_30 : decode bM_move 30 = .ok (.dup, 1) := by decide +kernel
theorem dM_move_31 : decode bM_move 31 = .ok (.getfield 66, 3) := by decide +kernel
theorem dM_move_34 : decode bM_move 34 = .ok (.aload_n 0, 1) := by decide +kernel
theorem dM_move_35 : decode bM_move 35 = .ok (.getfield 69, 3) := by decide +kernel
theorem dM_move_38 : decode bM_move 38 = .ok (.iload_n 2, 1) := by decide +kernel
theorem dM_move_39 : decode bM_move 39 = .ok (.if_icmp .ge 12, 3) := by decide +kernel
theorem dM_move_42 : decode bM_move 42 = .ok (.iload_n 2, 1) := by decide +kernel
theorem dM_move_43 : decode bM_move 43 = .ok (.aload_n 0, 1) := by decide +kernel
theorem dM_move_44 : decode bM_move 44 = .ok (.getfield 69, 3) := by decide +kernel
theorem dM_move_47 : decode bM_move 47 = .ok (.isub, 1) := by decide +kernel
theorem dM_move_48 : decode bM_move 48 = .ok (.goto 9, 3) := by decide +kernel
theorem dM_move_51 : decode bM_move 51 = .ok (.aload_n 0, 1) := by decide +kernel
theorem dM_move_52 : decode bM_move 52 = .ok (.getfield 69, 3) := by decide +kernel
theorem dM_move_55 : decode bM_move 55 = .ok (.iload_n 2, 1) := by decide +kernel
theorem dM_move_56 : decode bM_move 56 = .ok (.isub, 1) := by decide +kernel
theorem dM_move_57 : decode bM_move 57 = .ok (.iadd, 1) := by decide +kernel
theorem dM_move_58 : decode bM_move 58 = .ok (.putfield 66, 3) := by decide +kernel
theorem dM_move_61 : decode bM_move 61 = .ok (.aload_n 0, 1) := by decide +kernel
theorem dM_move_62 : decode bM_move 62 = .ok (.dup, 1) := by decide +kernel
theorem dM_move_63 : decode bM_move 63 = .ok (.getfield 66, 3) := by decide +kernel
theorem dM_move_66 : decode bM_move 66 = .ok (.iload_n 3, 1) := by decide +kernel
theorem dM_move_67 : decode bM_move 67 = .ok (.iadd, 1) := by decide +kernel
theorem dM_move_68 : decode bM_move 68 = .ok (.putfield 66, 3) := by decide +kernel
theorem dM_move_71 : decode bM_move 71 = .ok (.aload_n 0, 1) := by decide +kernel
theorem dM_move_72 : decode bM_move 72 = .ok (.iload_n 2, 1) := by decide +kernel
theorem dM_move_73 : decode bM_move 73 = .ok (.iload_n 3, 1) := by decide +kernel
theorem dM_move_74 : decode bM_move 74 = .ok (.iadd, 1) := by decide +kernel
theorem dM_move_75 : decode bM_move 75 = .ok (.putfield 69, 3) := by decide +kernel
theorem dM_move_78 : decode bM_move 78 = .ok (.return_, 1) := by decide +kernel
theorem dM_bringBack_0 : decode bM_bringBack 0 = .ok (.aload_n 0, 1) := by decide +kernel
theorem dM_bringBack_1 : decode bM_bringBack 1 = .ok (.aload_n 0, 1) := by decide +kernel
theorem dM_bringBack_2 : decode bM_bringBack 2 = .ok (.getfield 13, 3) := by decide +kernel
theorem dM_bringBack_5 : decode bM_bringBack 5 = .ok (.iload_n 1, 1) := by decide +kernel
theorem dM_bringBack_6 : decode bM_bringBack 6 = .ok (.iaload, 1) := by decide +kernel
theorem dM_bringBack_7 : decode bM_bringBack 7 = .ok (.invokevirtual 72, 3) := by decide +kernel
theorem dM_bringBack_10 : decode bM_bringBack 10 = .ok (.ifCond .ne 5, 3) := by decide +kernel
theorem dM_bringBack_13 : decode bM_bringBack 13 = .ok (.iconst 0, 1) := by decide +kernel
theorem dM_bringBack_14 : decode bM_bringBack 14 = .ok (.ireturn, 1) := by decide +kernel
theorem dM_bringBack_15 : decode bM_bringBack 15 = .ok (.aload_n 0, 1) := by decide +kernel
theorem dM_bringBack_16 : decode bM_bringBack 16 = .ok (.aload_n 0, 1) := by decide +kernel
theorem dM_bringBack_17 : decode bM_bringBack 17 = .ok (.getfield 22, 3) := by decide +kernel
theorem dM_bringBack_20 : decode bM_bringBack 20 = .ok (.iload_n 1, 1) := by decide +kernel
theorem dM_bringBack_21 : decode bM_bringBack 21 = .ok (.iaload, 1) := by decide +kernel
theorem dM_bringBack_22 : decode bM_bringBack 22 = .ok (.aload_n 0, 1) := by decide +kernel
theorem dM_bringBack_23 : decode bM_bringBack 23 = .ok (.getfield 25, 3) := by decide +kernel
theorem dM_bringBack_26 : decode bM_bringBack 26 = .ok (.iload_n 1, 1) := by decide +kernel
theorem dM_bringBack_27 : decode bM_bringBack 27 = .ok (.iaload, 1) := by decide +kernel
theorem dM_bringBack_28 : decode bM_bringBack 28 = .ok (.aload_n 0, 1) := by decide +kernel
theorem dM_bringBack_29 : decode bM_bringBack 29 = .ok (.getfield 13, 3) := by decide +kernel
theorem dM_bringBack_32 : decode bM_bringBack 32 = .ok (.iload_n 1, 1) := by decide +kernel
theorem dM_bringBack_33 : decode bM_bringBack 33 = .ok (.iaload, 1) := by decide +kernel
theorem dM_bringBack_34 : decode bM_bringBack 34 = .ok (.invokevirtual 76, 3) := by decide +kernel
theorem dM_bringBack_37 : decode bM_bringBack 37 = .ok (.aload_n 0, 1) := by decide +kernel
theorem dM_bringBack_38 : decode bM_bringBack 38 = .ok (.getfield 7, 3) := by decide +kernel
theorem dM_bringBack_41 : decode bM_bringBack 41 = .ok (.iload_n 1, 1) := by decide +kernel
theorem dM_bringBack_42 : decode bM_bringBack 42 = .ok (.iconst 2, 1) := by decide +kernel
theorem dM_bringBack_43 : decode bM_bringBack 43 = .ok (.iastore, 1) := by decide +kernel
theorem dM_bringBack_44 : decode bM_bringBack 44 = .ok (.aload_n 0, 1) := by decide +kernel
theorem dM_bringBack_45 : decode bM_bringBack 45 = .ok (.iload_n 1, 1) := by decide +kernel
theorem dM_bringBack_46 : decode bM_bringBack 46 = .ok (.invokevirtual 80, 3) := by decide +kernel
theorem dM_bringBack_49 : decode bM_bringBack 49 = .ok (.iconst 1, 1) := by decide +kernel
theorem dM_bringBack_50 : decode bM_bringBack 50 = .ok (.ireturn, 1) := by decide +kernel
theorem dM_copy_0 : decode bM_copy 0 = .ok (.iconst (-1), 1) := by decide +kernel
theorem dM_copy_1 : decode bM_copy 1 = .ok (.istore_n 3, 1) := by decide +kernel
theorem dM_copy_2 : decode bM_copy 2 = .ok (.iconst 3, 1) := by decide +kernel
theorem dM_copy_3 : decode bM_copy 3 = .ok (.istore 4, 2) := by decide +kernel
theorem dM_copy_5 : decode bM_copy 5 = .ok (.iload 4, 2) := by decide +kernel
theorem dM_copy_7 : decode bM_copy 7 = .ok (.ifCond .lt 48, 3) := by decide +kernel
theorem dM_copy_10 : decode bM_copy 10 = .ok (.iload 4, 2) := by decide +kernel
theorem dM_copy_12 : decode bM_copy 12 = .ok (.iload_n 2, 1) := by decide +kernel
theorem dM_copy_13 : decode bM_copy 13 = .ok (.if_icmp .eq 36, 3) := by decide +kernel
theorem dM_copy_16 : decode bM_copy 16 = .ok (.iload 4, 2) := by decide +kernel
theorem dM_copy_18 : decode bM_copy 18 = .ok (.aload_n 0, 1) := by decide +kernel
theorem dM_copy_19 : decode bM_copy 19 = .ok (.getfield 41, 3) := by decide +kernel
theorem dM_copy_22 : decode bM_copy 22 = .ok (.if_icmp .eq 27, 3) := by decide +kernel
theorem dM_copy_25 : decode bM_copy 25 = .ok (.aload_n 0, 1) := by decide +kernel
theorem dM_copy_26 : decode bM_copy 26 = .ok (.getfield 32, 3) := by decide +kernel
theorem dM_copy_29 : decode bM_copy 29 = .ok (.iload 4, 2) := by decide +kernel
theorem dM_copy_31 : decode bM_copy 31 = .ok (.iaload, 1) := by decide +kernel
theorem dM_copy_32 : decode bM_copy 32 = .ok (.aload_n 0, 1) := by decide +kernel
theorem dM_copy_33 : decode bM_copy 33 = .ok (.getfield 13, 3) := by decide +kernel
theorem dM_copy_36 : decode bM_copy 36 = .ok (.iload_n 1, 1) := by decide +kernel
theorem dM_copy_37 : decode bM_copy 37 = .ok (.iaload, 1) := by decide +kernel
theorem dM_copy_38 : decode bM_copy 38 = .ok (.iadd, 1) := by decide +kernel
theorem dM_copy_39 : decode bM_copy 39 = .ok (.aload_n 0, 1) := by decide +kernel
theorem dM_copy_40 : decode bM_copy 40 = .ok (.getfield 48, 3) := by decide +kernel
theorem dM_copy_43 : decode bM_copy 43 = .ok (.if_icmp .gt 6, 3) := by decide +kernel
theorem dM_copy_46 : decode bM_copy 46 = .ok (.iload 4, 2) := by decide +kernel
theorem dM_copy_48 : decode bM_copy 48 = .ok (.istore_n 3, 1) := by decide +kernel
theorem dM_copy_49 : decode bM_copy 49 = .ok (.iinc 4 (-1), 3) := by decide +kernel
theorem dM_copy_52 : decode bM_copy 52 = .ok (.goto (-47), 3) := by decide +kernel
theorem dM_copy_55 : decode bM_copy 55 = .ok (.aload_n 0, 1) := by decide +kernel
theorem dM_copy_56 : decode bM_copy 56 = .ok (.getfield 41, 3) := by decide +kernel
theorem dM_copy_59 : decode bM_copy 59 = .ok (.ifCond .lt 39, 3) := by decide +kernel
theorem dM_copy_62 : decode bM_copy 62 = .ok (.aload_n 0, 1) := by decide +kernel
theorem dM_copy_63 : decode bM_copy 63 = .ok (.getfield 41, 3) := by decide +kernel
theorem dM_copy_66 : decode bM_copy 66 = .ok (.iload_n 2, 1) := by decide +kernel
theorem dM_copy_67 : decode bM_copy 67 = .ok (.if_icmp .eq 31, 3) := by decide +kernel
theorem dM_copy_70 : decode bM_copy 70 = .ok (.aload_n 0, 1) := by decide +kernel
theorem dM_copy_71 : decode bM_copy 71 = .ok (.getfield 32, 3) := by decide +kernel
theorem dM_copy_74 : decode bM_copy 74 = .ok (.aload_n 0, 1) := by decide +kernel
theorem dM_copy_75 : decode bM_copy 75 = .ok (.getfield 41, 3) := by decide +kernel
theorem dM_copy_78 : decode bM_copy 78 = .ok (.iaload, 1) := by decide +kernel
theorem dM_copy_79 : decode bM_copy 79 = .ok (.aload_n 0, 1) := by decide +kernel
theorem dM_copy_80 : decode bM_copy 80 = .ok (.getfield 13, 3) := by decide +kernel
theorem dM_copy_83 : decode bM_copy 83 = .ok (.iload_n 1, 1) := by decide +kernel
theorem dM_copy_84 : decode bM_copy 84 = .ok (.iaload, 1) := by decide +kernel
theorem dM_copy_85 : decode bM_copy 85 = .ok (.iadd, 1) := by decide +kernel
theorem dM_copy_86 : decode bM_copy 86 = .ok (.aload_n 0, 1) := by decide +kernel
theorem dM_copy_87 : decode bM_copy 87 = .ok (.getfield 48, 3) := by decide +kernel
theorem dM_copy_90 : decode bM_copy 90 = .ok (.if_icmp .gt 8, 3) := by decide +kernel
theorem dM_copy_93 : decode bM_copy 93 = .ok (.aload_n 0, 1) := by decide +kernel
theorem dM_copy_94 : decode bM_copy 94 = .ok (.getfield 41, 3) := by decide +kernel
theorem dM_copy_97 : decode bM_copy 97 = .ok (.istore_n 3, 1) := by decide +kernel
theorem dM_copy_98 : decode bM_copy 98 = .ok (.iload_n 3, 1) := by decide +kernel
theorem dM_copy_99 : decode bM_copy 99 = .ok (.ifCond .ge 5, 3) := by decide +kernel
theorem dM_copy_102 : decode bM_copy 102 = .ok (.iconst 0, 1) := by decide +kernel
theorem dM_copy_103 : decode bM_copy 103 = .ok (.ireturn, 1) := by decide +kernel
theorem dM_copy_104 : decode bM_copy 104 = .ok (.aload_n 0, 1) := by decide +kernel
theorem dM_copy_105 : decode bM_copy 105 = .ok (.getfield 22, 3) := by decide +kernel
theorem dM_copy_108 : decode bM_copy 108 = .ok (.iload_n 1, 1) := by decide +kernel
theorem dM_copy_109 : decode bM_copy 109 = .ok (.iload_n 3, 1) := by decide +kernel
theorem dM_copy_110 : decode bM_copy 110 = .ok (.iastore, 1) := by decide +kernel
theorem dM_copy_111 : decode bM_copy 111 = .ok (.aload_n 0, 1) := by decide +kernel
theorem dM_copy_112 : decode bM_copy 112 = .ok (.getfield 25, 3) := by decide +kernel
theorem dM_copy_115 : decode bM_copy 115 = .ok (.iload_n 1, 1) := by decide +kernel
theorem dM_copy_116 : decode bM_copy 116 = .ok (.aload_n 0, 1) := by decide +kernel
theorem dM_copy_117 : decode bM_copy 117 = .ok (.getfield 32, 3) := by decide +kernel
theorem dM_copy_120 : decode bM_copy 120 = .ok (.iload_n 3, 1) := by decide +kernel
theorem dM_copy_121 : decode bM_copy 121 = .ok (.iaload, 1) := by decide +kernel
theorem dM_copy_122 : decode bM_copy 122 = .ok (.iastore, 1) := by decide +kernel
theorem dM_copy_123 : decode bM_copy 123 = .ok (.aload_n 0, 1) := by decide +kernel
theorem dM_copy_124 : decode bM_copy 124 = .ok (.getfield 32, 3) := by decide +kernel
theorem dM_copy_127 : decode bM_copy 127 = .ok (.iload_n 3, 1) := by decide +kernel
theorem dM_copy_128 : decode bM_copy 128 = .ok (.dup2, 1) := by decide +kernel
theorem dM_copy_129 : decode bM_copy 129 = .ok (.iaload, 1) := by decide +kernel
theorem dM_copy_130 : decode bM_copy 130 = .ok (.aload_n 0, 1) := by decide +kernel
theorem dM_copy_131 : decode bM_copy 131 = .ok (.getfield 13, 3) := by decide +kernel
theorem dM_copy_134 : decode bM_copy 134 = .ok (.iload_n 1, 1) := by decide +kernel
theorem dM_copy_135 : decode bM_copy 135 = .ok (.iaload, 1) := by decide +kernel
theorem dM_copy_136 : decode bM_copy 136 = .ok (.iadd, 1) := by decide +kernel
theorem dM_copy_137 : decode bM_copy 137 = .ok (.iastore, 1) := by decide +kernel
theorem dM_copy_138 : decode bM_copy 138 = .ok (.aload_n 0, 1) := by decide +kernel
theorem dM_copy_139 : decode bM_copy 139 = .ok (.iload_n 3, 1) := by decide +kernel
theorem dM_copy_140 : decode bM_copy 140 = .ok (.aload_n 0, 1) := by decide +kernel
theorem dM_copy_141 : decode bM_copy 141 = .ok (.getfield 25, 3) := by decide +kernel
theorem dM_copy_144 : decode bM_copy 144 = .ok (.iload_n 1, 1) := by decide +kernel
theorem dM_copy_145 : decode bM_copy 145 = .ok (.iaload, 1) := by decide +kernel
theorem dM_copy_146 : decode bM_copy 146 = .ok (.aload_n 0, 1) := by decide +kernel
theorem dM_copy_147 : decode bM_copy 147 = .ok (.getfield 13, 3) := by decide +kernel
theorem dM_copy_150 : decode bM_copy 150 = .ok (.iload_n 1, 1) := by decide +kernel
theorem dM_copy_151 : decode bM_copy 151 = .ok (.iaload, 1) := by decide +kernel
theorem dM_copy_152 : decode bM_copy 152 = .ok (.invokevirtual 76, 3) := by decide +kernel
theorem dM_copy_155 : decode bM_copy 155 = .ok (.iconst 1, 1) := by decide +kernel
theorem dM_copy_156 : decode bM_copy 156 = .ok (.ireturn, 1) := by decide +kernel
theorem dM_create_0 : decode bM_create 0 = .ok (.iload_n 1, 1) := by decide +kernel
theorem dM_create_1 : decode bM_create 1 = .ok (.bipush 16, 2) := by decide +kernel
theorem dM_create_3 : decode bM_create 3 = .ok (.invokestatic 51, 3) := by decide +kernel
theorem dM_create_6 : decode bM_create 6 = .ok (.ifCond .eq 22, 3) := by decide +kernel
theorem dM_create_9 : decode bM_create 9 = .ok (.iload_n 2, 1) := by decide +kernel
theorem dM_create_10 : decode bM_create 10 = .ok (.iconst 1, 1) := by decide +kernel
theorem dM_create_11 : decode bM_create 11 = .ok (.if_icmp .lt 17, 3) := by decide +kernel
theorem dM_create_14 : decode bM_create 14 = .ok (.iload_n 2, 1) := by decide +kernel
theorem dM_create_15 : decode bM_create 15 = .ok (.iconst 4, 1) := by decide +kernel
theorem dM_create_16 : decode bM_create 16 = .ok (.if_icmp .gt 12, 3) := by decide +kernel
theorem dM_create_19 : decode bM_create 19 = .ok (.aload_n 0, 1) := by decide +kernel
theorem dM_create_20 : decode bM_create 20 = .ok (.getfield 7, 3) := by decide +kernel
theorem dM_create_23 : decode bM_create 23 = .ok (.iload_n 1, 1) := by decide +kernel
theorem dM_create_24 : decode bM_create 24 = .ok (.iaload, 1) := by decide +kernel
theorem dM_create_25 : decode bM_create 25 = .ok (.ifCond .eq 5, 3) := by decide +kernel
theorem dM_create_28 : decode bM_create 28 = .ok (.iconst (-1), 1) := by decide +kernel
theorem dM_create_29 : decode bM_create 29 = .ok (.ireturn, 1) := by decide +kernel
theorem dM_create_30 : decode bM_create 30 = .ok (.aload_n 0, 1) := by decide +kernel
theorem dM_create_31 : decode bM_create 31 = .ok (.iload_n 2, 1) := by decide +kernel
theorem dM_create_32 : decode bM_create 32 = .ok (.invokevirtual 72, 3) := by decide +kernel
theorem dM_create_35 : decode bM_create 35 = .ok (.ifCond .ne 6, 3) := by decide +kernel
theorem dM_create_38 : decode bM_create 38 = .ok (.bipush (-2), 2) := by decide +kernel
theorem dM_create_40 : decode bM_create 40 = .ok (.ireturn, 1) := by decide +kernel
theorem dM_create_41 : decode bM_create 41 = .ok (.aload_n 0, 1) := by decide +kernel
theorem dM_create_42 : decode bM_create 42 = .ok (.getfield 7, 3) := by decide +kernel
theorem dM_create_45 : decode bM_create 45 = .ok (.iload_n 1, 1) := by decide +kernel
theorem dM_create_46 : decode bM_create 46 = .ok (.iconst 1, 1) := by decide +kernel
theorem dM_create_47 : decode bM_create 47 = .ok (.iastore, 1) := by decide +kernel
theorem dM_create_48 : decode bM_create 48 = .ok (.aload_n 0, 1) := by decide +kernel
theorem dM_create_49 : decode bM_create 49 = .ok (.getfield 13, 3) := by decide +kernel
theorem dM_create_52 : decode bM_create 52 = .ok (.iload_n 1, 1) := by decide +kernel
theorem dM_create_53 : decode bM_create 53 = .ok (.iload_n 2, 1) := by decide +kernel
theorem dM_create_54 : decode bM_create 54 = .ok (.iastore, 1) := by decide +kernel
theorem dM_create_55 : decode bM_create 55 = .ok (.iconst 0, 1) := by decide +kernel
theorem dM_create_56 : decode bM_create 56 = .ok (.istore_n 3, 1) := by decide +kernel
theorem dM_create_57 : decode bM_create 57 = .ok (.iload_n 3, 1) := by decide +kernel
theorem dM_create_58 : decode bM_create 58 = .ok (.iconst 4, 1) := by decide +kernel
theorem dM_create_59 : decode bM_create 59 = .ok (.if_icmp .ge 20, 3) := by decide +kernel
theorem dM_create_62 : decode bM_create 62 = .ok (.aload_n 0, 1) := by decide +kernel
theorem dM_create_63 : decode bM_create 63 = .ok (.getfield 16, 3) := by decide +kernel
theorem dM_create_66 : decode bM_create 66 = .ok (.iload_n 1, 1) := by decide +kernel
theorem dM_create_67 : decode bM_create 67 = .ok (.iconst 4, 1) := by decide +kernel
theorem dM_create_68 : decode bM_create 68 = .ok (.imul, 1) := by decide +kernel
theorem dM_create_69 : decode bM_create 69 = .ok (.iload_n 3, 1) := by decide +kernel
theorem dM_create_70 : decode bM_create 70 = .ok (.iadd, 1) := by decide +kernel
theorem dM_create_71 : decode bM_create 71 = .ok (.iconst 0, 1) := by decide +kernel
theorem dM_create_72 : decode bM_create 72 = .ok (.iastore, 1) := by decide +kernel
theorem dM_create_73 : decode bM_create 73 = .ok (.iinc 3 1, 3) := by decide +kernel
theorem dM_create_76 : decode bM_create 76 = .ok (.goto (-19), 3) := by decide +kernel
theorem dM_create_79 : decode bM_create 79 = .ok (.aload_n 0, 1) := by decide +kernel
theorem dM_create_80 : decode bM_create 80 = .ok (.iload_n 1, 1) := by decide +kernel
theorem dM_create_81 : decode bM_create 81 = .ok (.invokevirtual 80, 3) := by decide +kernel
theorem dM_create_84 : decode bM_create 84 = .ok (.iconst 0, 1) := by decide +kernel
theorem dM_create_85 : decode bM_create 85 = .ok (.ireturn, 1) := by decide +kernel
theorem dM_write_0 : decode bM_write 0 = .ok (.aload_n 0, 1) := by decide +kernel
theorem dM_write_1 : decode bM_write 1 = .ok (.iload_n 1, 1) := by decide +kernel
theorem dM_write_2 : decode bM_write 2 = .ok (.invokevirtual 84, 3) := by decide +kernel
theorem dM_write_5 : decode bM_write 5 = .ok (.ifCond .eq 16, 3) := by decide +kernel
theorem dM_write_8 : decode bM_write 8 = .ok (.iload_n 2, 1) := by decide +kernel
theorem dM_write_9 : decode bM_write 9 = .ok (.aload_n 0, 1) := by decide +kernel
theorem dM_write_10 : decode bM_write 10 = .ok (.getfield 13, 3) := by decide +kernel
theorem dM_write_13 : decode bM_write 13 = .ok (.iload_n 1, 1) := by decide +kernel
theorem dM_write_14 : decode bM_write 14 = .ok (.iaload, 1) := by decide +kernel
theorem dM_write_15 : decode bM_write 15 = .ok (.invokestatic 51, 3) := by decide +kernel
theorem dM_write_18 : decode bM_write 18 = .ok (.ifCond .ne 5, 3) := by decide +kernel
theorem dM_write_21 : decode bM_write 21 = .ok (.iconst (-1), 1) := by decide +kernel
theorem dM_write_22 : decode bM_write 22 = .ok (.ireturn, 1) := by decide +kernel
theorem dM_write_23 : decode bM_write 23 = .ok (.aload_n 0, 1) := by decide +kernel
theorem dM_write_24 : decode bM_write 24 = .ok (.getfield 7, 3) := by decide +kernel
theorem dM_write_27 : decode bM_write 27 = .ok (.iload_n 1, 1) := by decide +kernel
theorem dM_write_28 : decode bM_write 28 = .ok (.iaload, 1) := by decide +kernel
theorem dM_write_29 : decode bM_write 29 = .ok (.iconst 4, 1) := by decide +kernel
theorem dM_write_30 : decode bM_write 30 = .ok (.if_icmp .ne 6, 3) := by decide +kernel
theorem dM_write_33 : decode bM_write 33 = .ok (.bipush (-3), 2) := by decide +kernel
theorem dM_write_35 : decode bM_write 35 = .ok (.ireturn, 1) := by decide +kernel
theorem dM_write_36 : decode bM_write 36 = .ok (.aload_n 0, 1) := by decide +kernel
theorem dM_write_37 : decode bM_write 37 = .ok (.getfield 7, 3) := by decide +kernel
theorem dM_write_40 : decode bM_write 40 = .ok (.iload_n 1, 1) := by decide +kernel
theorem dM_write_41 : decode bM_write 41 = .ok (.iaload, 1) := by decide +kernel
theorem dM_write_42 : decode bM_write 42 = .ok (.iconst 3, 1) := by decide +kernel
theorem dM_write_43 : decode bM_write 43 = .ok (.if_icmp .ne 14, 3) := by decide +kernel
theorem dM_write_46 : decode bM_write 46 = .ok (.aload_n 0, 1) := by decide +kernel
theorem dM_write_47 : decode bM_write 47 = .ok (.iload_n 1, 1) := by decide +kernel
theorem dM_write_48 : decode bM_write 48 = .ok (.invokevirtual 87, 3) := by decide +kernel
theorem dM_write_51 : decode bM_write 51 = .ok (.ifCond .ne 6, 3) := by decide +kernel
theorem dM_write_54 : decode bM_write 54 = .ok (.bipush (-2), 2) := by decide +kernel
theorem dM_write_56 : decode bM_write 56 = .ok (.ireturn, 1) := by decide +kernel
theorem dM_write_57 : decode bM_write 57 = .ok (.aload_n 0, 1) := by decide +kernel
theorem dM_write_58 : decode bM_write 58 = .ok (.getfield 16, 3) := by decide +kernel
theorem dM_write_61 : decode bM_write 61 = .ok (.iload_n 1, 1) := by decide +kernel
theorem dM_write_62 : decode bM_write 62 = .ok (.iconst 4, 1) := by decide +kernel
theorem dM_write_63 : decode bM_write 63 = .ok (.imul, 1) := by decide +kernel
theorem dM_write_64 : decode bM_write 64 = .ok (.iload_n 2, 1) := by decide +kernel
theorem dM_write_65 : decode bM_write 65 = .ok (.iadd, 1) := by decide +kernel
theorem dM_write_66 : decode bM_write 66 = .ok (.iload_n 3, 1) := by decide +kernel
theorem dM_write_67 : decode bM_write 67 = .ok (.iastore, 1) := by decide +kernel
theorem dM_write_68 : decode bM_write 68 = .ok (.aload_n 0, 1) := by decide +kernel
theorem dM_write_69 : decode bM_write 69 = .ok (.getfield 7, 3) := by decide +kernel
theorem dM_write_72 : decode bM_write 72 = .ok (.iload_n 1, 1) := by decide +kernel
theorem dM_write_73 : decode bM_write 73 = .ok (.iconst 1, 1) := by decide +kernel
theorem dM_write_74 : decode bM_write 74 = .ok (.iastore, 1) := by decide +kernel
theorem dM_write_75 : decode bM_write 75 = .ok (.aload_n 0, 1) := by decide +kernel
theorem dM_write_76 : decode bM_write 76 = .ok (.iload_n 1, 1) := by decide +kernel
theorem dM_write_77 : decode bM_write 77 = .ok (.invokevirtual 80, 3) := by decide +kernel
theorem dM_write_80 : decode bM_write 80 = .ok (.iconst 0, 1) := by decide +kernel
theorem dM_write_81 : decode bM_write 81 = .ok (.ireturn, 1) := by decide +kernel
theorem dM_read_0 : decode bM_read 0 = .ok (.aload_n 0, 1) := by decide +kernel
theorem dM_read_1 : decode bM_read 1 = .ok (.iload_n 1, 1) := by decide +kernel
theorem dM_read_2 : decode bM_read 2 = .ok (.invokevirtual 84, 3) := by decide +kernel
theorem dM_read_5 : decode bM_read 5 = .ok (.ifCond .eq 16, 3) := by decide +kernel
theorem dM_read_8 : decode bM_read 8 = .ok (.iload_n 2, 1) := by decide +kernel
theorem dM_read_9 : decode bM_read 9 = .ok (.aload_n 0, 1) := by decide +kernel
theorem dM_read_10 : decode bM_read 10 = .ok (.getfield 13, 3) := by decide +kernel
theorem dM_read_13 : decode bM_read 13 = .ok (.iload_n 1, 1) := by decide +kernel
theorem dM_read_14 : decode bM_read 14 = .ok (.iaload, 1) := by decide +kernel
theorem dM_read_15 : decode bM_read 15 = .ok (.invokestatic 51, 3) := by decide +kernel
theorem dM_read_18 : decode bM_read 18 = .ok (.ifCond .ne 7, 3) := by decide +kernel
theorem dM_read_21 : decode bM_read 21 = .ok (.ldc2_w 90, 3) := by decide +kernel
theorem dM_read_24 : decode bM_read 24 = .ok (.lreturn, 1) := by decide +kernel
theorem dM_read_25 : decode bM_read 25 = .ok (.aload_n 0, 1) := by decide +kernel
theorem dM_read_26 : decode bM_read 26 = .ok (.getfield 7, 3) := by decide +kernel
theorem dM_read_29 : decode bM_read 29 = .ok (.iload_n 1, 1) := by decide +kernel
theorem dM_read_30 : decode bM_read 30 = .ok (.iaload, 1) := by decide +kernel
theorem dM_read_31 : decode bM_read 31 = .ok (.iconst 4, 1) := by decide +kernel
theorem dM_read_32 : decode bM_read 32 = .ok (.if_icmp .ne 7, 3) := by decide +kernel
theorem dM_read_35 : decode bM_read 35 = .ok (.ldc2_w 92, 3) := by decide +kernel
theorem dM_read_38 : decode bM_read 38 = .ok (.lreturn, 1) := by decide +kernel
theorem dM_read_39 : decode bM_read 39 = .ok (.aload_n 0, 1) := by decide +kernel
theorem dM_read_40 : decode bM_read 40 = .ok (.getfield 7, 3) := by decide +kernel
theorem dM_read_43 : decode bM_read 43 = .ok (.iload_n 1, 1) := by decide +kernel
theorem dM_read_44 : decode bM_read 44 = .ok (.iaload, 1) := by decide +kernel
theorem dM_read_45 : decode bM_read 45 = .ok (.iconst 3, 1) := by decide +kernel
theorem dM_read_46 : decode bM_read 46 = .ok (.if_icmp .ne 15, 3) := by decide +kernel
theorem dM_read_49 : decode bM_read 49 = .ok (.aload_n 0, 1) := by decide +kernel
theorem dM_read_50 : decode bM_read 50 = .ok (.iload_n 1, 1) := by decide +kernel
theorem dM_read_51 : decode bM_read 51 = .ok (.invokevirtual 87, 3) := by decide +kernel
theorem dM_read_54 : decode bM_read 54 = .ok (.ifCond .ne 7, 3) := by decide +kernel
theorem dM_read_57 : decode bM_read 57 = .ok (.ldc2_w 94, 3) := by decide +kernel
theorem dM_read_60 : decode bM_read 60 = .ok (.lreturn, 1) := by decide +kernel
theorem dM_read_61 : decode bM_read 61 = .ok (.aload_n 0, 1) := by decide +kernel
theorem dM_read_62 : decode bM_read 62 = .ok (.iload_n 1, 1) := by decide +kernel
theorem dM_read_63 : decode bM_read 63 = .ok (.invokevirtual 80, 3) := by decide +kernel
theorem dM_read_66 : decode bM_read 66 = .ok (.aload_n 0, 1) := by decide +kernel
theorem dM_read_67 : decode bM_read 67 = .ok (.getfield 16, 3) := by decide +kernel
theorem dM_read_70 : decode bM_read 70 = .ok (.iload_n 1, 1) := by decide +kernel
theorem dM_read_71 : decode bM_read 71 = .ok (.iconst 4, 1) := by decide +kernel
theorem dM_read_72 : decode bM_read 72 = .ok (.imul, 1) := by decide +kernel
theorem dM_read_73 : decode bM_read 73 = .ok (.iload_n 2, 1) := by decide +kernel
theorem dM_read_74 : decode bM_read 74 = .ok (.iadd, 1) := by decide +kernel
theorem dM_read_75 : decode bM_read 75 = .ok (.iaload, 1) := by decide +kernel
theorem dM_read_76 : decode bM_read 76 = .ok (.i2l, 1) := by decide +kernel
theorem dM_read_77 : decode bM_read 77 = .ok (.lreturn, 1) := by decide +kernel
theorem dM_remove_0 : decode bM_remove 0 = .ok (.aload_n 0, 1) := by decide +kernel
theorem dM_remove_1 : decode bM_remove 1 = .ok (.iload_n 1, 1) := by decide +kernel
theorem dM_remove_2 : decode bM_remove 2 = .ok (.invokevirtual 84, 3) := by decide +kernel
theorem dM_remove_5 : decode bM_remove 5 = .ok (.ifCond .ne 5, 3) := by decide +kernel
theorem dM_remove_8 : decode bM_remove 8 = .ok (.iconst (-1), 1) := by decide +kernel
theorem dM_remove_9 : decode bM_remove 9 = .ok (.ireturn, 1) := by decide +kernel
theorem dM_remove_10 : decode bM_remove 10 = .ok (.aload_n 0, 1) := by decide +kernel
theorem dM_remove_11 : decode bM_remove 11 = .ok (.getfield 7, 3) := by decide +kernel
theorem dM_remove_14 : decode bM_remove 14 = .ok (.iload_n 1, 1) := by decide +kernel
theorem dM_remove_15 : decode bM_remove 15 = .ok (.iconst 0, 1) := by decide +kernel
theorem dM_remove_16 : decode bM_remove 16 = .ok (.iastore, 1) := by decide +kernel
theorem dM_remove_17 : decode bM_remove 17 = .ok (.aload_n 0, 1) := by decide +kernel
theorem dM_remove_18 : decode bM_remove 18 = .ok (.getfield 28, 3) := by decide +kernel
theorem dM_remove_21 : decode bM_remove 21 = .ok (.iload_n 1, 1) := by decide +kernel
theorem dM_remove_22 : decode bM_remove 22 = .ok (.iconst 0, 1) := by decide +kernel
theorem dM_remove_23 : decode bM_remove 23 = .ok (.bastore, 1) := by decide +kernel
theorem dM_remove_24 : decode bM_remove 24 = .ok (.iconst 0, 1) := by decide +kernel
theorem dM_remove_25 : decode bM_remove 25 = .ok (.ireturn, 1) := by decide +kernel
theorem dM_backUp_0 : decode bM_backUp 0 = .ok (.aload_n 0, 1) := by decide +kernel
theorem dM_backUp_1 : decode bM_backUp 1 = .ok (.iconst 1, 1) := by decide +kernel
theorem dM_backUp_2 : decode bM_backUp 2 = .ok (.invokevirtual 62, 3) := by decide +kernel
theorem dM_backUp_5 : decode bM_backUp 5 = .ok (.istore_n 1, 1) := by decide +kernel
theorem dM_backUp_6 : decode bM_backUp 6 = .ok (.iload_n 1, 1) := by decide +kernel
theorem dM_backUp_7 : decode bM_backUp 7 = .ok (.ifCond .ge 5, 3) := by decide +kernel
theorem dM_backUp_10 : decode bM_backUp 10 = .ok (.iconst (-1), 1) := by decide +kernel
theorem dM_backUp_11 : decode bM_backUp 11 = .ok (.ireturn, 1) := by decide +kernel
theorem dM_backUp_12 : decode bM_backUp 12 = .ok (.aload_n 0, 1) := by decide +kernel
theorem dM_backUp_13 : decode bM_backUp 13 = .ok (.iload_n 1, 1) := by decide +kernel
theorem dM_backUp_14 : decode bM_backUp 14 = .ok (.iconst (-1), 1) := by decide +kernel
theorem dM_backUp_15 : decode bM_backUp 15 = .ok (.invokevirtual 96, 3) := by decide +kernel
theorem dM_backUp_18 : decode bM_backUp 18 = .ok (.ifCond .ne 6, 3) := by decide +kernel
theorem dM_backUp_21 : decode bM_backUp 21 = .ok (.bipush (-2), 2) := by decide +kernel
theorem dM_backUp_23 : decode bM_backUp 23 = .ok (.ireturn, 1) := by decide +kernel
theorem dM_backUp_24 : decode bM_backUp 24 = .ok (.aload_n 0, 1) := by decide +kernel
theorem dM_backUp_25 : decode bM_backUp 25 = .ok (.getfield 7, 3) := by decide +kernel
theorem dM_backUp_28 : decode bM_backUp 28 = .ok (.iload_n 1, 1) := by decide +kernel
theorem dM_backUp_29 : decode bM_backUp 29 = .ok (.iconst 2, 1) := by decide +kernel
theorem dM_backUp_30 : decode bM_backUp 30 = .ok (.iastore, 1) := by decide +kernel
theorem dM_backUp_31 : decode bM_backUp 31 = .ok (.iload_n 1, 1) := by decide +kernel
theorem dM_backUp_32 : decode bM_backUp 32 = .ok (.ireturn, 1) := by decide +kernel
theorem dM_tidy_0 : decode bM_tidy 0 = .ok (.iload_n 1, 1) := by decide +kernel
theorem dM_tidy_1 : decode bM_tidy 1 = .ok (.bipush 25, 2) := by decide +kernel
theorem dM_tidy_3 : decode bM_tidy 3 = .ok (.invokestatic 51, 3) := by decide +kernel
theorem dM_tidy_6 : decode bM_tidy 6 = .ok (.ifCond .eq 17, 3) := by decide +kernel
theorem dM_tidy_9 : decode bM_tidy 9 = .ok (.iload_n 2, 1) := by decide +kernel
theorem dM_tidy_10 : decode bM_tidy 10 = .ok (.bipush 25, 2) := by decide +kernel
theorem dM_tidy_12 : decode bM_tidy 12 = .ok (.invokestatic 51, 3) := by decide +kernel
theorem dM_tidy_15 : decode bM_tidy 15 = .ok (.ifCond .eq 8, 3) := by decide +kernel
theorem dM_tidy_18 : decode bM_tidy 18 = .ok (.iload_n 2, 1) := by decide +kernel
theorem dM_tidy_19 : decode bM_tidy 19 = .ok (.iload_n 1, 1) := by decide +kernel
theorem dM_tidy_20 : decode bM_tidy 20 = .ok (.if_icmp .le 5, 3) := by decide +kernel
theorem dM_tidy_23 : decode bM_tidy 23 = .ok (.iconst (-1), 1) := by decide +kernel
theorem dM_tidy_24 : decode bM_tidy 24 = .ok (.ireturn, 1) := by decide +kernel
theorem dM_tidy_25 : decode bM_tidy 25 = .ok (.iconst 0, 1) := by decide +kernel
theorem dM_tidy_26 : decode bM_tidy 26 = .ok (.istore_n 3, 1) := by decide +kernel
theorem dM_tidy_27 : decode bM_tidy 27 = .ok (.aload_n 0, 1) := by decide +kernel
theorem dM_tidy_28 : decode bM_tidy 28 = .ok (.invokevirtual 58, 3) := by decide +kernel
theorem dM_tidy_31 : decode bM_tidy 31 = .ok (.iload_n 1, 1) := by decide +kernel
theorem dM_tidy_32 : decode bM_tidy 32 = .ok (.if_icmp .le 7, 3) := by decide +kernel
theorem dM_tidy_35 : decode bM_tidy 35 = .ok (.iconst 1, 1) := by decide +kernel
theorem dM_tidy_36 : decode bM_tidy 36 = .ok (.goto 4, 3) := by decide +kernel
theorem dM_tidy_39 : decode bM_tidy 39 = .ok (.iconst 0, 1) := by decide +kernel
theorem dM_tidy_40 : decode bM_tidy 40 = .ok (.istore 4, 2) := by decide +kernel
theorem dM_tidy_42 : decode bM_tidy 42 = .ok (.iconst 0, 1) := by decide +kernel
theorem dM_tidy_43 : decode bM_tidy 43 = .ok (.istore 5, 2) := by decide +kernel
theorem dM_tidy_45 : decode bM_tidy 45 = .ok (.iload 5, 2) := by decide +kernel
theorem dM_tidy_47 : decode bM_tidy 47 = .ok (.bipush 16, 2) := by decide +kernel
theorem dM_tidy_49 : decode bM_tidy 49 = .ok (.if_icmp .ge 45, 3) := by decide +kernel
theorem dM_tidy_52 : decode bM_tidy 52 = .ok (.aload_n 0, 1) := by decide +kernel
theorem dM_tidy_53 : decode bM_tidy 53 = .ok (.iconst 2, 1) := by decide +kernel
theorem dM_tidy_54 : decode bM_tidy 54 = .ok (.invokevirtual 62, 3) := by decide +kernel
theorem dM_tidy_57 : decode bM_tidy 57 = .ok (.istore 6, 2) := by decide +kernel
theorem dM_tidy_59 : decode bM_tidy 59 = .ok (.iload 4, 2) := by decide +kernel
theorem dM_tidy_61 : decode bM_tidy 61 = .ok (.ifCond .eq 27, 3) := by decide +kernel
theorem dM_tidy_64 : decode bM_tidy 64 = .ok (.aload_n 0, 1) := by decide +kernel
theorem dM_tidy_65 : decode bM_tidy 65 = .ok (.invokevirtual 58, 3) := by decide +kernel
theorem dM_tidy_68 : decode bM_tidy 68 = .ok (.iload_n 2, 1) := by decide +kernel
theorem dM_tidy_69 : decode bM_tidy 69 = .ok (.if_icmp .le 19, 3) := by decide +kernel
theorem dM_tidy_72 : decode bM_tidy 72 = .ok (.iload 6, 2) := by decide +kernel
theorem dM_tidy_74 : decode bM_tidy 74 = .ok (.ifCond .lt 14, 3) := by decide +kernel
theorem dM_tidy_77 : decode bM_tidy 77 = .ok (.aload_n 0, 1) := by decide +kernel
theorem dM_tidy_78 : decode bM_tidy 78 = .ok (.getfield 7, 3) := by decide +kernel
theorem dM_tidy_81 : decode bM_tidy 81 = .ok (.iload 6, 2) := by decide +kernel
theorem dM_tidy_83 : decode bM_tidy 83 = .ok (.iconst 3, 1) := by decide +kernel
theorem dM_tidy_84 : decode bM_tidy 84 = .ok (.iastore, 1) := by decide +kernel
theorem dM_tidy_85 : decode bM_tidy 85 = .ok (.iinc 3 1, 3) := by decide +kernel
theorem dM_tidy_88 : decode bM_tidy 88 = .ok (.iinc 5 1, 3) := by decide +kernel
theorem dM_tidy_91 : decode bM_tidy 91 = .ok (.goto (-46), 3) := by decide +kernel
theorem dM_tidy_94 : decode bM_tidy 94 = .ok (.iload_n 3, 1) := by decide +kernel
theorem dM_tidy_95 : decode bM_tidy 95 = .ok (.ireturn, 1) := by decide +kernel
theorem dM_waiting_0 : decode bM_waiting 0 = .ok (.iconst 0, 1) := by decide +kernel
theorem dM_waiting_1 : decode bM_waiting 1 = .ok (.istore_n 1, 1) := by decide +kernel
theorem dM_waiting_2 : decode bM_waiting 2 = .ok (.iconst 0, 1) := by decide +kernel
theorem dM_waiting_3 : decode bM_waiting 3 = .ok (.istore_n 2, 1) := by decide +kernel
theorem dM_waiting_4 : decode bM_waiting 4 = .ok (.iload_n 2, 1) := by decide +kernel
theorem dM_waiting_5 : decode bM_waiting 5 = .ok (.bipush 16, 2) := by decide +kernel
theorem dM_waiting_7 : decode bM_waiting 7 = .ok (.if_icmp .ge 21, 3) := by decide +kernel
theorem dM_waiting_10 : decode bM_waiting 10 = .ok (.aload_n 0, 1) := by decide +kernel
theorem dM_waiting_11 : decode bM_waiting 11 = .ok (.getfield 28, 3) := by decide +kernel
theorem dM_waiting_14 : decode bM_waiting 14 = .ok (.iload_n 2, 1) := by decide +kernel
theorem dM_waiting_15 : decode bM_waiting 15 = .ok (.baload, 1) := by decide +kernel
theorem dM_waiting_16 : decode bM_waiting 16 = .ok (.ifCond .eq 6, 3) := by decide +kernel
theorem dM_waiting_19 : decode bM_waiting 19 = .ok (.iinc 1 1, 3) := by decide +kernel
theorem dM_waiting_22 : decode bM_waiting 22 = .ok (.iinc 2 1, 3) := by decide +kernel
theorem dM_waiting_25 : decode bM_waiting 25 = .ok (.goto (-21), 3) := by decide +kernel
theorem dM_waiting_28 : decode bM_waiting 28 = .ok (.iload_n 1, 1) := by decide +kernel
theorem dM_waiting_29 : decode bM_waiting 29 = .ok (.ireturn, 1) := by decide +kernel
theorem dM_ask_0 : decode bM_ask 0 = .ok (.aload_n 0, 1) := by decide +kernel
theorem dM_ask_1 : decode bM_ask 1 = .ok (.iload_n 1, 1) := by decide +kernel
theorem dM_ask_2 : decode bM_ask 2 = .ok (.invokevirtual 84, 3) := by decide +kernel
theorem dM_ask_5 : decode bM_ask 5 = .ok (.ifCond .eq 22, 3) := by decide +kernel
theorem dM_ask_8 : decode bM_ask 8 = .ok (.aload_n 0, 1) := by decide +kernel
theorem dM_ask_9 : decode bM_ask 9 = .ok (.getfield 7, 3) := by decide +kernel
theorem dM_ask_12 : decode bM_ask 12 = .ok (.iload_n 1, 1) := by decide +kernel
theorem dM_ask_13 : decode bM_ask 13 = .ok (.iaload, 1) := by decide +kernel
theorem dM_ask_14 : decode bM_ask 14 = .ok (.iconst 3, 1) := by decide +kernel
theorem dM_ask_15 : decode bM_ask 15 = .ok (.if_icmp .ne 12, 3) := by decide +kernel
theorem dM_ask_18 : decode bM_ask 18 = .ok (.aload_n 0, 1) := by decide +kernel
theorem dM_ask_19 : decode bM_ask 19 = .ok (.getfield 28, 3) := by decide +kernel
theorem dM_ask_22 : decode bM_ask 22 = .ok (.iload_n 1, 1) := by decide +kernel
theorem dM_ask_23 : decode bM_ask 23 = .ok (.baload, 1) := by decide +kernel
theorem dM_ask_24 : decode bM_ask 24 = .ok (.ifCond .eq 5, 3) := by decide +kernel
theorem dM_ask_27 : decode bM_ask 27 = .ok (.iconst (-1), 1) := by decide +kernel
theorem dM_ask_28 : decode bM_ask 28 = .ok (.ireturn, 1) := by decide +kernel
theorem dM_ask_29 : decode bM_ask 29 = .ok (.aload_n 0, 1) := by decide +kernel
theorem dM_ask_30 : decode bM_ask 30 = .ok (.invokevirtual 99, 3) := by decide +kernel
theorem dM_ask_33 : decode bM_ask 33 = .ok (.bipush 6, 2) := by decide +kernel
theorem dM_ask_35 : decode bM_ask 35 = .ok (.if_icmp .ne 6, 3) := by decide +kernel
theorem dM_ask_38 : decode bM_ask 38 = .ok (.bipush (-2), 2) := by decide +kernel
theorem dM_ask_40 : decode bM_ask 40 = .ok (.ireturn, 1) := by decide +kernel
theorem dM_ask_41 : decode bM_ask 41 = .ok (.aload_n 0, 1) := by decide +kernel
theorem dM_ask_42 : decode bM_ask 42 = .ok (.getfield 28, 3) := by decide +kernel
theorem dM_ask_45 : decode bM_ask 45 = .ok (.iload_n 1, 1) := by decide +kernel
theorem dM_ask_46 : decode bM_ask 46 = .ok (.iconst 1, 1) := by decide +kernel
theorem dM_ask_47 : decode bM_ask 47 = .ok (.bastore, 1) := by decide +kernel
theorem dM_ask_48 : decode bM_ask 48 = .ok (.iconst 0, 1) := by decide +kernel
theorem dM_ask_49 : decode bM_ask 49 = .ok (.ireturn, 1) := by decide +kernel
theorem dM_rank_0 : decode bM_rank 0 = .ok (.aload_n 0, 1) := by decide +kernel
theorem dM_rank_1 : decode bM_rank 1 = .ok (.getfield 22, 3) := by decide +kernel
theorem dM_rank_4 : decode bM_rank 4 = .ok (.iload_n 1, 1) := by decide +kernel
theorem dM_rank_5 : decode bM_rank 5 = .ok (.iaload, 1) := by decide +kernel
theorem dM_rank_6 : decode bM_rank 6 = .ok (.aload_n 0, 1) := by decide +kernel
theorem dM_rank_7 : decode bM_rank 7 = .ok (.getfield 41, 3) := by decide +kernel
theorem dM_rank_10 : decode bM_rank 10 = .ok (.if_icmp .ne 7, 3) := by decide +kernel
theorem dM_rank_13 : decode bM_rank 13 = .ok (.iconst 0, 1) := by decide +kernel
theorem dM_rank_14 : decode bM_rank 14 = .ok (.goto 15, 3) := by decide +kernel
theorem dM_rank_17 : decode bM_rank 17 = .ok (.bipush 100, 2) := by decide +kernel
theorem dM_rank_19 : decode bM_rank 19 = .ok (.bipush 100, 2) := by decide +kernel
theorem dM_rank_21 : decode bM_rank 21 = .ok (.aload_n 0, 1) := by decide +kernel
theorem dM_rank_22 : decode bM_rank 22 = .ok (.getfield 22, 3) := by decide +kernel
theorem dM_rank_25 : decode bM_rank 25 = .ok (.iload_n 1, 1) := by decide +kernel
theorem dM_rank_26 : decode bM_rank 26 = .ok (.iaload, 1) := by decide +kernel
theorem dM_rank_27 : decode bM_rank 27 = .ok (.imul, 1) := by decide +kernel
theorem dM_rank_28 : decode bM_rank 28 = .ok (.iadd, 1) := by decide +kernel
theorem dM_rank_29 : decode bM_rank 29 = .ok (.aload_n 0, 1) := by decide +kernel
theorem dM_rank_30 : decode bM_rank 30 = .ok (.getfield 25, 3) := by decide +kernel
theorem dM_rank_33 : decode bM_rank 33 = .ok (.iload_n 1, 1) := by decide +kernel
theorem dM_rank_34 : decode bM_rank 34 = .ok (.iaload, 1) := by decide +kernel
theorem dM_rank_35 : decode bM_rank 35 = .ok (.iadd, 1) := by decide +kernel
theorem dM_rank_36 : decode bM_rank 36 = .ok (.ireturn, 1) := by decide +kernel
theorem dM_serve_0 : decode bM_serve 0 = .ok (.iconst 0, 1) := by decide +kernel
theorem dM_serve_1 : decode bM_serve 1 = .ok (.istore_n 1, 1) := by decide +kernel
theorem dM_serve_2 : decode bM_serve 2 = .ok (.iconst 0, 1) := by decide +kernel
theorem dM_serve_3 : decode bM_serve 3 = .ok (.istore_n 2, 1) := by decide +kernel
theorem dM_serve_4 : decode bM_serve 4 = .ok (.iload_n 2, 1) := by decide +kernel
theorem dM_serve_5 : decode bM_serve 5 = .ok (.bipush 16, 2) := by decide +kernel
theorem dM_serve_7 : decode bM_serve 7 = .ok (.if_icmp .ge 45, 3) := by decide +kernel
theorem dM_serve_10 : decode bM_serve 10 = .ok (.aload_n 0, 1) := by decide +kernel
theorem dM_serve_11 : decode bM_serve 11 = .ok (.getfield 28, 3) := by decide +kernel
theorem dM_serve_14 : decode bM_serve 14 = .ok (.iload_n 2, 1) := by decide +kernel
theorem dM_serve_15 : decode bM_serve 15 = .ok (.baload, 1) := by decide +kernel
theorem dM_serve_16 : decode bM_serve 16 = .ok (.ifCond .eq 23, 3) := by decide +kernel
theorem dM_serve_19 : decode bM_serve 19 = .ok (.aload_n 0, 1) := by decide +kernel
theorem dM_serve_20 : decode bM_serve 20 = .ok (.getfield 7, 3) := by decide +kernel
theorem dM_serve_23 : decode bM_serve 23 = .ok (.iload_n 2, 1) := by decide +kernel
theorem dM_serve_24 : decode bM_serve 24 = .ok (.iaload, 1) := by decide +kernel
theorem dM_serve_25 : decode bM_serve 25 = .ok (.iconst 3, 1) := by decide +kernel
theorem dM_serve_26 : decode bM_serve 26 = .ok (.if_icmp .ne 13, 3) := by decide +kernel
theorem dM_serve_29 : decode bM_serve 29 = .ok (.aload_n 0, 1) := by decide +kernel
theorem dM_serve_30 : decode bM_serve 30 = .ok (.getfield 38, 3) := by decide +kernel
theorem dM_serve_33 : decode bM_serve 33 = .ok (.iload_n 1, 1) := by decide +kernel
theorem dM_serve_34 : decode bM_serve 34 = .ok (.iload_n 2, 1) := by decide +kernel
theorem dM_serve_35 : decode bM_serve 35 = .ok (.iastore, 1) := by decide +kernel
theorem dM_serve_36 : decode bM_serve 36 = .ok (.iinc 1 1, 3) := by decide +kernel
theorem dM_serve_39 : decode bM_serve 39 = .ok (.aload_n 0, 1) := by decide +kernel
theorem dM_serve_40 : decode bM_serve 40 = .ok (.getfield 28, 3) := by decide +kernel
theorem dM_serve_43 : decode bM_serve 43 = .ok (.iload_n 2, 1) := by decide +kernel
theorem dM_serve_44 : decode bM_serve 44 = .ok (.iconst 0, 1) := by decide +kernel
theorem dM_serve_45 : decode bM_serve 45 = .ok (.bastore, 1) := by decide +kernel
theorem dM_serve_46 : decode bM_serve 46 = .ok (.iinc 2 1, 3) := by decide +kernel
theorem dM_serve_49 : decode bM_serve 49 = .ok (.goto (-45), 3) := by decide +kernel
theorem dM_serve_52 : decode bM_serve 52 = .ok (.iconst 0, 1) := by decide +kernel
theorem dM_serve_53 : decode bM_serve 53 = .ok (.istore_n 2, 1) := by decide +kernel
theorem dM_serve_54 : decode bM_serve 54 = .ok (.iload_n 2, 1) := by decide +kernel
theorem dM_serve_55 : decode bM_serve 55 = .ok (.iload_n 1, 1) := by decide +kernel
theorem dM_serve_56 : decode bM_serve 56 = .ok (.if_icmp .ge 81, 3) := by decide +kernel
theorem dM_serve_59 : decode bM_serve 59 = .ok (.iload_n 1, 1) := by decide +kernel
theorem dM_serve_60 : decode bM_serve 60 = .ok (.iconst 1, 1) := by decide +kernel
theorem dM_serve_61 : decode bM_serve 61 = .ok (.isub, 1) := by decide +kernel
theorem dM_serve_62 : decode bM_serve 62 = .ok (.istore_n 3, 1) := by decide +kernel
theorem dM_serve_63 : decode bM_serve 63 = .ok (.iload_n 3, 1) := by decide +kernel
theorem dM_serve_64 : decode bM_serve 64 = .ok (.iload_n 2, 1) := by decide +kernel
theorem dM_serve_65 : decode bM_serve 65 = .ok (.if_icmp .le 66, 3) := by decide +kernel
theorem dM_serve_68 : decode bM_serve 68 = .ok (.aload_n 0, 1) := by decide +kernel
theorem dM_serve_69 : decode bM_serve 69 = .ok (.aload_n 0, 1) := by decide +kernel
theorem dM_serve_70 : decode bM_serve 70 = .ok (.getfield 38, 3) := by decide +kernel
theorem dM_serve_73 : decode bM_serve 73 = .ok (.iload_n 3, 1) := by decide +kernel
theorem dM_serve_74 : decode bM_serve 74 = .ok (.iaload, 1) := by decide +kernel
theorem dM_serve_75 : decode bM_serve 75 = .ok (.invokevirtual 102, 3) := by decide +kernel
theorem dM_serve_78 : decode bM_serve 78 = .ok (.aload_n 0, 1) := by decide +kernel
theorem dM_serve_79 : decode bM_serve 79 = .ok (.aload_n 0, 1) := by decide +kernel
theorem dM_serve_80 : decode bM_serve 80 = .ok (.getfield 38, 3) := by decide +kernel
theorem dM_serve_83 : decode bM_serve 83 = .ok (.iload_n 3, 1) := by decide +kernel
theorem dM_serve_84 : decode bM_serve 84 = .ok (.iconst 1, 1) := by decide +kernel
theorem dM_serve_85 : decode bM_serve 85 = .ok (.isub, 1) := by decide +kernel
theorem dM_serve_86 : decode bM_serve 86 = .ok (.iaload, 1) := by decide +kernel
theorem dM_serve_87 : decode bM_serve 87 = .ok (.invokevirtual 102, 3) := by decide +kernel
theorem dM_serve_90 : decode bM_serve 90 = .ok (.if_icmp .ge 35, 3) := by decide +kernel
theorem dM_serve_93 : decode bM_serve 93 = .ok (.aload_n 0, 1) := by decide +kernel
theorem dM_serve_94 : decode bM_serve 94 = .ok (.getfield 38, 3) := by decide +kernel
theorem dM_serve_97 : decode bM_serve 97 = .ok (.iload_n 3, 1) := by decide +kernel
theorem dM_serve_98 : decode bM_serve 98 = .ok (.iaload, 1) := by decide +kernel
theorem dM_serve_99 : decode bM_serve 99 = .ok (.istore 4, 2) := by decide +kernel
theorem dM_serve_101 : decode bM_serve 101 = .ok (.aload_n 0, 1) := by decide +kernel
theorem dM_serve_102 : decode bM_serve 102 = .ok (.getfield 38, 3) := by decide +kernel
theorem dM_serve_105 : decode bM_serve 105 = .ok (.iload_n 3, 1) := by decide +kernel
theorem dM_serve_106 : decode bM_serve 106 = .ok (.aload_n 0, 1) := by decide +kernel
theorem dM_serve_107 : decode bM_serve 107 = .ok (.getfield 38, 3) := by decide +kernel
theorem dM_serve_110 : decode bM_serve 110 = .ok (.iload_n 3, 1) := by decide +kernel
theorem dM_serve_111 : decode bM_serve 111 = .ok (.iconst 1, 1) := by decide +kernel
theorem dM_serve_112 : decode bM_serve 112 = .ok (.isub, 1) := by decide +kernel
theorem dM_serve_113 : decode bM_serve 113 = .ok (.iaload, 1) := by decide +kernel
theorem dM_serve_114 : decode bM_serve 114 = .ok (.iastore, 1) := by decide +kernel
theorem dM_serve_115 : decode bM_serve 115 = .ok (.aload_n 0, 1) := by decide +kernel
theorem dM_serve_116 : decode bM_serve 116 = .ok (.getfield 38, 3) := by decide +kernel
theorem dM_serve_119 : decode bM_serve 119 = .ok (.iload_n 3, 1) := by decide +kernel
theorem dM_serve_120 : decode bM_serve 120 = .ok (.iconst 1, 1) := by decide +kernel
theorem dM_serve_121 : decode bM_serve 121 = .ok (.isub, 1) := by decide +kernel
theorem dM_serve_122 : decode bM_serve 122 = .ok (.iload 4, 2) := by decide +kernel
theorem dM_serve_124 : decode bM_serve 124 = .ok (.iastore, 1) := by decide +kernel
theorem dM_serve_125 : decode bM_serve 125 = .ok (.iinc 3 (-1), 3) := by decide +kernel
theorem dM_serve_128 : decode bM_serve 128 = .ok (.goto (-65), 3) := by decide +kernel
theorem dM_serve_131 : decode bM_serve 131 = .ok (.iinc 2 1, 3) := by decide +kernel
theorem dM_serve_134 : decode bM_serve 134 = .ok (.goto (-80), 3) := by decide +kernel
theorem dM_serve_137 : decode bM_serve 137 = .ok (.iconst 0, 1) := by decide +kernel
theorem dM_serve_138 : decode bM_serve 138 = .ok (.istore_n 2, 1) := by decide +kernel
theorem dM_serve_139 : decode bM_serve 139 = .ok (.iconst 0, 1) := by decide +kernel
theorem dM_serve_140 : decode bM_serve 140 = .ok (.istore_n 3, 1) := by decide +kernel
theorem dM_serve_141 : decode bM_serve 141 = .ok (.iload_n 3, 1) := by decide +kernel
theorem dM_serve_142 : decode bM_serve 142 = .ok (.iload_n 1, 1) := by decide +kernel
theorem dM_serve_143 : decode bM_serve 143 = .ok (.if_icmp .ge 25, 3) := by decide +kernel
theorem dM_serve_146 : decode bM_serve 146 = .ok (.aload_n 0, 1) := by decide +kernel
theorem dM_serve_147 : decode bM_serve 147 = .ok (.aload_n 0, 1) := by decide +kernel
theorem dM_serve_148 : decode bM_serve 148 = .ok (.getfield 38, 3) := by decide +kernel
theorem dM_serve_151 : decode bM_serve 151 = .ok (.iload_n 3, 1) := by decide +kernel
theorem dM_serve_152 : decode bM_serve 152 = .ok (.iaload, 1) := by decide +kernel
theorem dM_serve_153 : decode bM_serve 153 = .ok (.invokevirtual 87, 3) := by decide +kernel
theorem dM_serve_156 : decode bM_serve 156 = .ok (.ifCond .eq 6, 3) := by decide +kernel
theorem dM_serve_159 : decode bM_serve 159 = .ok (.iinc 2 1, 3) := by decide +kernel
theorem dM_serve_162 : decode bM_serve 162 = .ok (.iinc 3 1, 3) := by decide +kernel
theorem dM_serve_165 : decode bM_serve 165 = .ok (.goto (-24), 3) := by decide +kernel
theorem dM_serve_168 : decode bM_serve 168 = .ok (.iload_n 2, 1) := by decide +kernel
theorem dM_serve_169 : decode bM_serve 169 = .ok (.ireturn, 1) := by decide +kernel
theorem dM_copied_0 : decode bM_copied 0 = .ok (.aload_n 0, 1) := by decide +kernel
theorem dM_copied_1 : decode bM_copied 1 = .ok (.getfield 7, 3) := by decide +kernel
theorem dM_copied_4 : decode bM_copied 4 = .ok (.iload_n 1, 1) := by decide +kernel
theorem dM_copied_5 : decode bM_copied 5 = .ok (.iaload, 1) := by decide +kernel
theorem dM_copied_6 : decode bM_copied 6 = .ok (.iconst 2, 1) := by decide +kernel
theorem dM_copied_7 : decode bM_copied 7 = .ok (.if_icmp .eq 13, 3) := by decide +kernel
theorem dM_copied_10 : decode bM_copied 10 = .ok (.aload_n 0, 1) := by decide +kernel
theorem dM_copied_11 : decode bM_copied 11 = .ok (.getfield 7, 3) := by decide +kernel
theorem dM_copied_14 : decode bM_copied 14 = .ok (.iload_n 1, 1) := by decide +kernel
theorem dM_copied_15 : decode bM_copied 15 = .ok (.iaload, 1) := by decide +kernel
theorem dM_copied_16 : decode bM_copied 16 = .ok (.iconst 3, 1) := by decide +kernel
theorem dM_copied_17 : decode bM_copied 17 = .ok (.if_icmp .ne 7, 3) := by decide +kernel
theorem dM_copied_20 : decode bM_copied 20 = .ok (.iconst 1, 1) := by decide +kernel
theorem dM_copied_21 : decode bM_copied 21 = .ok (.goto 4, 3) := by decide +kernel
theorem dM_copied_24 : decode bM_copied 24 = .ok (.iconst 0, 1) := by decide +kernel
theorem dM_copied_25 : decode bM_copied 25 = .ok (.ireturn, 1) := by decide +kernel
theorem dM_next_0 : decode bM_next 0 = .ok (.iconst (-1), 1) := by decide +kernel
theorem dM_next_1 : decode bM_next 1 = .ok (.istore_n 3, 1) := by decide +kernel
theorem dM_next_2 : decode bM_next 2 = .ok (.iconst 0, 1) := by decide +kernel
theorem dM_next_3 : decode bM_next 3 = .ok (.istore 4, 2) := by decide +kernel
theorem dM_next_5 : decode bM_next 5 = .ok (.iload 4, 2) := by decide +kernel
theorem dM_next_7 : decode bM_next 7 = .ok (.bipush 16, 2) := by decide +kernel
theorem dM_next_9 : decode bM_next 9 = .ok (.if_icmp .ge 75, 3) := by decide +kernel
theorem dM_next_12 : decode bM_next 12 = .ok (.aload_n 0, 1) := by decide +kernel
theorem dM_next_13 : decode bM_next 13 = .ok (.iload 4, 2) := by decide +kernel
theorem dM_next_15 : decode bM_next 15 = .ok (.invokevirtual 105, 3) := by decide +kernel
theorem dM_next_18 : decode bM_next 18 = .ok (.ifCond .eq 29, 3) := by decide +kernel
theorem dM_next_21 : decode bM_next 21 = .ok (.aload_n 0, 1) := by decide +kernel
theorem dM_next_22 : decode bM_next 22 = .ok (.getfield 22, 3) := by decide +kernel
theorem dM_next_25 : decode bM_next 25 = .ok (.iload 4, 2) := by decide +kernel
theorem dM_next_27 : decode bM_next 27 = .ok (.iaload, 1) := by decide +kernel
theorem dM_next_28 : decode bM_next 28 = .ok (.iload_n 1, 1) := by decide +kernel
theorem dM_next_29 : decode bM_next 29 = .ok (.if_icmp .ne 18, 3) := by decide +kernel
theorem dM_next_32 : decode bM_next 32 = .ok (.aload_n 0, 1) := by decide +kernel
theorem dM_next_33 : decode bM_next 33 = .ok (.getfield 25, 3) := by decide +kernel
theorem dM_next_36 : decode bM_next 36 = .ok (.iload 4, 2) := by decide +kernel
theorem dM_next_38 : decode bM_next 38 = .ok (.iaload, 1) := by decide +kernel
theorem dM_next_39 : decode bM_next 39 = .ok (.iload_n 2, 1) := by decide +kernel
theorem dM_next_40 : decode bM_next 40 = .ok (.if_icmp .lt 7, 3) := by decide +kernel
theorem dM_next_43 : decode bM_next 43 = .ok (.iconst 1, 1) := by decide +kernel
theorem dM_next_44 : decode bM_next 44 = .ok (.goto 4, 3) := by decide +kernel
theorem dM_next_47 : decode bM_next 47 = .ok (.iconst 0, 1) := by decide +kernel
theorem dM_next_48 : decode bM_next 48 = .ok (.istore 5, 2) := by decide +kernel
theorem dM_next_50 : decode bM_next 50 = .ok (.iload 5, 2) := by decide +kernel
theorem dM_next_52 : decode bM_next 52 = .ok (.ifCond .eq 26, 3) := by decide +kernel
theorem dM_next_55 : decode bM_next 55 = .ok (.iload_n 3, 1) := by decide +kernel
theorem dM_next_56 : decode bM_next 56 = .ok (.ifCond .lt 19, 3) := by decide +kernel
theorem dM_next_59 : decode bM_next 59 = .ok (.aload_n 0, 1) := by decide +kernel
theorem dM_next_60 : decode bM_next 60 = .ok (.getfield 25, 3) := by decide +kernel
theorem dM_next_63 : decode bM_next 63 = .ok (.iload 4, 2) := by decide +kernel
theorem dM_next_65 : decode bM_next 65 = .ok (.iaload, 1) := by decide +kernel
theorem dM_next_66 : decode bM_next 66 = .ok (.aload_n 0, 1) := by decide +kernel
theorem dM_next_67 : decode bM_next 67 = .ok (.getfield 25, 3) := by decide +kernel
theorem dM_next_70 : decode bM_next 70 = .ok (.iload_n 3, 1) := by decide +kernel
theorem dM_next_71 : decode bM_next 71 = .ok (.iaload, 1) := by decide +kernel
theorem dM_next_72 : decode bM_next 72 = .ok (.if_icmp .ge 6, 3) := by decide +kernel
theorem dM_next_75 : decode bM_next 75 = .ok (.iload 4, 2) := by decide +kernel
theorem dM_next_77 : decode bM_next 77 = .ok (.istore_n 3, 1) := by decide +kernel
theorem dM_next_78 : decode bM_next 78 = .ok (.iinc 4 1, 3) := by decide +kernel
theorem dM_next_81 : decode bM_next 81 = .ok (.goto (-76), 3) := by decide +kernel
theorem dM_next_84 : decode bM_next 84 = .ok (.iload_n 3, 1) := by decide +kernel
theorem dM_next_85 : decode bM_next 85 = .ok (.ireturn, 1) := by decide +kernel
theorem dM_canEmpty_0 : decode bM_canEmpty 0 = .ok (.iconst 0, 1) := by decide +kernel
theorem dM_canEmpty_1 : decode bM_canEmpty 1 = .ok (.istore_n 2, 1) := by decide +kernel
theorem dM_canEmpty_2 : decode bM_canEmpty 2 = .ok (.iload_n 2, 1) := by decide +kernel
theorem dM_canEmpty_3 : decode bM_canEmpty 3 = .ok (.iconst 4, 1) := by decide +kernel
theorem dM_canEmpty_4 : decode bM_canEmpty 4 = .ok (.if_icmp .ge 21, 3) := by decide +kernel
theorem dM_canEmpty_7 : decode bM_canEmpty 7 = .ok (.aload_n 0, 1) := by decide +kernel
theorem dM_canEmpty_8 : decode bM_canEmpty 8 = .ok (.getfield 35, 3) := by decide +kernel
theorem dM_canEmpty_11 : decode bM_canEmpty 11 = .ok (.iload_n 2, 1) := by decide +kernel
theorem dM_canEmpty_12 : decode bM_canEmpty 12 = .ok (.aload_n 0, 1) := by decide +kernel
theorem dM_canEmpty_13 : decode bM_canEmpty 13 = .ok (.getfield 32, 3) := by decide +kernel
theorem dM_canEmpty_16 : decode bM_canEmpty 16 = .ok (.iload_n 2, 1) := by decide +kernel
theorem dM_canEmpty_17 : decode bM_canEmpty 17 = .ok (.iaload, 1) := by decide +kernel
theorem dM_canEmpty_18 : decode bM_canEmpty 18 = .ok (.iastore, 1) := by decide +kernel
theorem dM_canEmpty_19 : decode bM_canEmpty 19 = .ok (.iinc 2 1, 3) := by decide +kernel
theorem dM_canEmpty_22 : decode bM_canEmpty 22 = .ok (.goto (-20), 3) := by decide +kernel
theorem dM_canEmpty_25 : decode bM_canEmpty 25 = .ok (.aload_n 0, 1) := by decide +kernel
theorem dM_canEmpty_26 : decode bM_canEmpty 26 = .ok (.iload_n 1, 1) := by decide +kernel
theorem dM_canEmpty_27 : decode bM_canEmpty 27 = .ok (.iconst 0, 1) := by decide +kernel
theorem dM_canEmpty_28 : decode bM_canEmpty 28 = .ok (.invokevirtual 108, 3) := by decide +kernel
theorem dM_canEmpty_31 : decode bM_canEmpty 31 = .ok (.istore_n 2, 1) := by decide +kernel
theorem dM_canEmpty_32 : decode bM_canEmpty 32 = .ok (.iconst 0, 1) := by decide +kernel
theorem dM_canEmpty_33 : decode bM_canEmpty 33 = .ok (.istore_n 3, 1) := by decide +kernel
theorem dM_canEmpty_34 : decode bM_canEmpty 34 = .ok (.iload_n 3, 1) := by decide +kernel
theorem dM_canEmpty_35 : decode bM_canEmpty 35 = .ok (.bipush 16, 2) := by decide +kernel
theorem dM_canEmpty_37 : decode bM_canEmpty 37 = .ok (.if_icmp .ge 98, 3) := by decide +kernel
theorem dM_canEmpty_40 : decode bM_canEmpty 40 = .ok (.iload_n 2, 1) := by decide +kernel
theorem dM_canEmpty_41 : decode bM_canEmpty 41 = .ok (.ifCond .lt 94, 3) := by decide +kernel
theorem dM_canEmpty_44 : decode bM_canEmpty 44 = .ok (.iconst (-1), 1) := by decide +kernel
theorem dM_canEmpty_45 : decode bM_canEmpty 45 = .ok (.istore 4, 2) := by decide +kernel
theorem dM_canEmpty_47 : decode bM_canEmpty 47 = .ok (.iconst 3, 1) := by decide +kernel
theorem dM_canEmpty_48 : decode bM_canEmpty 48 = .ok (.istore 5, 2) := by decide +kernel
theorem dM_canEmpty_50 : decode bM_canEmpty 50 = .ok (.iload 5, 2) := by decide +kernel
theorem dM_canEmpty_52 : decode bM_canEmpty 52 = .ok (.ifCond .lt 40, 3) := by decide +kernel
theorem dM_canEmpty_55 : decode bM_canEmpty 55 = .ok (.iload 5, 2) := by decide +kernel
theorem dM_canEmpty_57 : decode bM_canEmpty 57 = .ok (.iload_n 1, 1) := by decide +kernel
theorem dM_canEmpty_58 : decode bM_canEmpty 58 = .ok (.if_icmp .eq 28, 3) := by decide +kernel
theorem dM_canEmpty_61 : decode bM_canEmpty 61 = .ok (.aload_n 0, 1) := by decide +kernel
theorem dM_canEmpty_62 : decode bM_canEmpty 62 = .ok (.getfield 35, 3) := by decide +kernel
theorem dM_canEmpty_65 : decode bM_canEmpty 65 = .ok (.iload 5, 2) := by decide +kernel
theorem dM_canEmpty_67 : decode bM_canEmpty 67 = .ok (.iaload, 1) := by decide +kernel
theorem dM_canEmpty_68 : decode bM_canEmpty 68 = .ok (.aload_n 0, 1) := by decide +kernel
theorem dM_canEmpty_69 : decode bM_canEmpty 69 = .ok (.getfield 13, 3) := by decide +kernel
theorem dM_canEmpty_72 : decode bM_canEmpty 72 = .ok (.iload_n 2, 1) := by decide +kernel
theorem dM_canEmpty_73 : decode bM_canEmpty 73 = .ok (.iaload, 1) := by decide +kernel
theorem dM_canEmpty_74 : decode bM_canEmpty 74 = .ok (.iadd, 1) := by decide +kernel
theorem dM_canEmpty_75 : decode bM_canEmpty 75 = .ok (.aload_n 0, 1) := by decide +kernel
theorem dM_canEmpty_76 : decode bM_canEmpty 76 = .ok (.getfield 48, 3) := by decide +kernel
theorem dM_canEmpty_79 : decode bM_canEmpty 79 = .ok (.if_icmp .gt 7, 3) := by decide +kernel
theorem dM_canEmpty_82 : decode bM_canEmpty 82 = .ok (.iload 5, 2) := by decide +kernel
theorem dM_canEmpty_84 : decode bM_canEmpty 84 = .ok (.istore 4, 2) := by decide +kernel
theorem dM_canEmpty_86 : decode bM_canEmpty 86 = .ok (.iinc 5 (-1), 3) := by decide +kernel
theorem dM_canEmpty_89 : decode bM_canEmpty 89 = .ok (.goto (-39), 3) := by decide +kernel
theorem dM_canEmpty_92 : decode bM_canEmpty 92 = .ok (.iload 4, 2) := by decide +kernel
theorem dM_canEmpty_94 : decode bM_canEmpty 94 = .ok (.ifCond .ge 5, 3) := by decide +kernel
theorem dM_canEmpty_97 : decode bM_canEmpty 97 = .ok (.iconst 0, 1) := by decide +kernel
theorem dM_canEmpty_98 : decode bM_canEmpty 98 = .ok (.ireturn, 1) := by decide +kernel
theorem dM_canEmpty_99 : decode bM_canEmpty 99 = .ok (.aload_n 0, 1) := by decide +kernel
theorem dM_canEmpty_100 : decode bM_canEmpty 100 = .ok (.getfield 35, 3) := by decide +kernel
theorem dM_canEmpty_103 : decode bM_canEmpty 103 = .ok (.iload 4, 2) := by decide +kernel
theorem dM_canEmpty_105 : decode bM_canEmpty 105 = .ok (.dup2, 1) := by decide +kernel
theorem dM_canEmpty_106 : decode bM_canEmpty 106 = .ok (.iaload, 1) := by decide +kernel
theorem dM_canEmpty_107 : decode bM_canEmpty 107 = .ok (.aload_n 0, 1) := by decide +kernel
theorem dM_canEmpty_108 : decode bM_canEmpty 108 = .ok (.getfield 13, 3) := by decide +kernel
theorem dM_canEmpty_111 : decode bM_canEmpty 111 = .ok (.iload_n 2, 1) := by decide +kernel
theorem dM_canEmpty_112 : decode bM_canEmpty 112 = .ok (.iaload, 1) := by decide +kernel
theorem dM_canEmpty_113 : decode bM_canEmpty 113 = .ok (.iadd, 1) := by decide +kernel
theorem dM_canEmpty_114 : decode bM_canEmpty 114 = .ok (.iastore, 1) := by decide +kernel
theorem dM_canEmpty_115 : decode bM_canEmpty 115 = .ok (.aload_n 0, 1) := by decide +kernel
theorem dM_canEmpty_116 : decode bM_canEmpty 116 = .ok (.iload_n 1, 1) := by decide +kernel
theorem dM_canEmpty_117 : decode bM_canEmpty 117 = .ok (.aload_n 0, 1) := by decide +kernel
theorem dM_canEmpty_118 : decode bM_canEmpty 118 = .ok (.getfield 25, 3) := by decide +kernel
theorem dM_canEmpty_121 : decode bM_canEmpty 121 = .ok (.iload_n 2, 1) := by decide +kernel
theorem dM_canEmpty_122 : decode bM_canEmpty 122 = .ok (.iaload, 1) := by decide +kernel
theorem dM_canEmpty_123 : decode bM_canEmpty 123 = .ok (.iconst 1, 1) := by decide +kernel
theorem dM_canEmpty_124 : decode bM_canEmpty 124 = .ok (.iadd, 1) := by decide +kernel
theorem dM_canEmpty_125 : decode bM_canEmpty 125 = .ok (.invokevirtual 108, 3) := by decide +kernel
theorem dM_canEmpty_128 : decode bM_canEmpty 128 = .ok (.istore_n 2, 1) := by decide +kernel
theorem dM_canEmpty_129 : decode bM_canEmpty 129 = .ok (.iinc 3 1, 3) := by decide +kernel
theorem dM_canEmpty_132 : decode bM_canEmpty 132 = .ok (.goto (-98), 3) := by decide +kernel
theorem dM_canEmpty_135 : decode bM_canEmpty 135 = .ok (.iconst 1, 1) := by decide +kernel
theorem dM_canEmpty_136 : decode bM_canEmpty 136 = .ok (.ireturn, 1) := by decide +kernel
theorem dM_empty_0 : decode bM_empty 0 = .ok (.iload_n 1, 1) := by decide +kernel
theorem dM_empty_1 : decode bM_empty 1 = .ok (.iconst 4, 1) := by decide +kernel
theorem dM_empty_2 : decode bM_empty 2 = .ok (.invokestatic 51, 3) := by decide +kernel
theorem dM_empty_5 : decode bM_empty 5 = .ok (.ifCond .ne 5, 3) := by decide +kernel
theorem dM_empty_8 : decode bM_empty 8 = .ok (.iconst (-1), 1) := by decide +kernel
theorem dM_empty_9 : decode bM_empty 9 = .ok (.ireturn, 1) := by decide +kernel
theorem dM_empty_10 : decode bM_empty 10 = .ok (.aload_n 0, 1) := by decide +kernel
theorem dM_empty_11 : decode bM_empty 11 = .ok (.iload_n 1, 1) := by decide +kernel
theorem dM_empty_12 : decode bM_empty 12 = .ok (.invokevirtual 112, 3) := by decide +kernel
theorem dM_empty_15 : decode bM_empty 15 = .ok (.ifCond .ne 6, 3) := by decide +kernel
theorem dM_empty_18 : decode bM_empty 18 = .ok (.bipush (-2), 2) := by decide +kernel
theorem dM_empty_20 : decode bM_empty 20 = .ok (.ireturn, 1) := by decide +kernel
theorem dM_empty_21 : decode bM_empty 21 = .ok (.iconst 0, 1) := by decide +kernel
theorem dM_empty_22 : decode bM_empty 22 = .ok (.istore_n 2, 1) := by decide +kernel
theorem dM_empty_23 : decode bM_empty 23 = .ok (.aload_n 0, 1) := by decide +kernel
theorem dM_empty_24 : decode bM_empty 24 = .ok (.iload_n 1, 1) := by decide +kernel
theorem dM_empty_25 : decode bM_empty 25 = .ok (.iconst 0, 1) := by decide +kernel
theorem dM_empty_26 : decode bM_empty 26 = .ok (.invokevirtual 108, 3) := by decide +kernel
theorem dM_empty_29 : decode bM_empty 29 = .ok (.istore_n 3, 1) := by decide +kernel
theorem dM_empty_30 : decode bM_empty 30 = .ok (.iload_n 2, 1) := by decide +kernel
theorem dM_empty_31 : decode bM_empty 31 = .ok (.bipush 16, 2) := by decide +kernel
theorem dM_empty_33 : decode bM_empty 33 = .ok (.if_icmp .ge 53, 3) := by decide +kernel
theorem dM_empty_36 : decode bM_empty 36 = .ok (.iload_n 3, 1) := by decide +kernel
theorem dM_empty_37 : decode bM_empty 37 = .ok (.ifCond .lt 49, 3) := by decide +kernel
theorem dM_empty_40 : decode bM_empty 40 = .ok (.aload_n 0, 1) := by decide +kernel
theorem dM_empty_41 : decode bM_empty 41 = .ok (.getfield 25, 3) := by decide +kernel
theorem dM_empty_44 : decode bM_empty 44 = .ok (.iload_n 3, 1) := by decide +kernel
theorem dM_empty_45 : decode bM_empty 45 = .ok (.iaload, 1) := by decide +kernel
theorem dM_empty_46 : decode bM_empty 46 = .ok (.istore 4, 2) := by decide +kernel
theorem dM_empty_48 : decode bM_empty 48 = .ok (.aload_n 0, 1) := by decide +kernel
theorem dM_empty_49 : decode bM_empty 49 = .ok (.iload_n 1, 1) := by decide +kernel
theorem dM_empty_50 : decode bM_empty 50 = .ok (.iload 4, 2) := by decide +kernel
theorem dM_empty_52 : decode bM_empty 52 = .ok (.aload_n 0, 1) := by decide +kernel
theorem dM_empty_53 : decode bM_empty 53 = .ok (.getfield 13, 3) := by decide +kernel
theorem dM_empty_56 : decode bM_empty 56 = .ok (.iload_n 3, 1) := by decide +kernel
theorem dM_empty_57 : decode bM_empty 57 = .ok (.iaload, 1) := by decide +kernel
theorem dM_empty_58 : decode bM_empty 58 = .ok (.invokevirtual 76, 3) := by decide +kernel
theorem dM_empty_61 : decode bM_empty 61 = .ok (.aload_n 0, 1) := by decide +kernel
theorem dM_empty_62 : decode bM_empty 62 = .ok (.iload_n 3, 1) := by decide +kernel
theorem dM_empty_63 : decode bM_empty 63 = .ok (.iload_n 1, 1) := by decide +kernel
theorem dM_empty_64 : decode bM_empty 64 = .ok (.invokevirtual 96, 3) := by decide +kernel
theorem dM_empty_67 : decode bM_empty 67 = .ok (.ifCond .eq 6, 3) := by decide +kernel
theorem dM_empty_70 : decode bM_empty 70 = .ok (.iinc 2 1, 3) := by decide +kernel
theorem dM_empty_73 : decode bM_empty 73 = .ok (.aload_n 0, 1) := by decide +kernel
theorem dM_empty_74 : decode bM_empty 74 = .ok (.iload_n 1, 1) := by decide +kernel
theorem dM_empty_75 : decode bM_empty 75 = .ok (.iload 4, 2) := by decide +kernel
theorem dM_empty_77 : decode bM_empty 77 = .ok (.iconst 1, 1) := by decide +kernel
theorem dM_empty_78 : decode bM_empty 78 = .ok (.iadd, 1) := by decide +kernel
theorem dM_empty_79 : decode bM_empty 79 = .ok (.invokevirtual 108, 3) := by decide +kernel
theorem dM_empty_82 : decode bM_empty 82 = .ok (.istore_n 3, 1) := by decide +kernel
theorem dM_empty_83 : decode bM_empty 83 = .ok (.goto (-53), 3) := by decide +kernel
theorem dM_empty_86 : decode bM_empty 86 = .ok (.aload_n 0, 1) := by decide +kernel
theorem dM_empty_87 : decode bM_empty 87 = .ok (.getfield 32, 3) := by decide +kernel
theorem dM_empty_90 : decode bM_empty 90 = .ok (.iload_n 1, 1) := by decide +kernel
theorem dM_empty_91 : decode bM_empty 91 = .ok (.iconst 0, 1) := by decide +kernel
theorem dM_empty_92 : decode bM_empty 92 = .ok (.iastore, 1) := by decide +kernel
theorem dM_empty_93 : decode bM_empty 93 = .ok (.iload_n 2, 1) := by decide +kernel
theorem dM_empty_94 : decode bM_empty 94 = .ok (.ireturn, 1) := by decide +kernel
theorem dM_lose_0 : decode bM_lose 0 = .ok (.iload_n 1, 1) := by decide +kernel
theorem dM_lose_1 : decode bM_lose 1 = .ok (.iconst 4, 1) := by decide +kernel
theorem dM_lose_2 : decode bM_lose 2 = .ok (.invokestatic 51, 3) := by decide +kernel
theorem dM_lose_5 : decode bM_lose 5 = .ok (.ifCond .ne 5, 3) := by decide +kernel
theorem dM_lose_8 : decode bM_lose 8 = .ok (.iconst (-1), 1) := by decide +kernel
theorem dM_lose_9 : decode bM_lose 9 = .ok (.ireturn, 1) := by decide +kernel
theorem dM_lose_10 : decode bM_lose 10 = .ok (.iconst 0, 1) := by decide +kernel
theorem dM_lose_11 : decode bM_lose 11 = .ok (.istore_n 2, 1) := by decide +kernel
theorem dM_lose_12 : decode bM_lose 12 = .ok (.iconst 0, 1) := by decide +kernel
theorem dM_lose_13 : decode bM_lose 13 = .ok (.istore_n 3, 1) := by decide +kernel
theorem dM_lose_14 : decode bM_lose 14 = .ok (.iload_n 3, 1) := by decide +kernel
theorem dM_lose_15 : decode bM_lose 15 = .ok (.bipush 16, 2) := by decide +kernel
theorem dM_lose_17 : decode bM_lose 17 = .ok (.if_icmp .ge 61, 3) := by decide +kernel
theorem dM_lose_20 : decode bM_lose 20 = .ok (.aload_n 0, 1) := by decide +kernel
theorem dM_lose_21 : decode bM_lose 21 = .ok (.iload_n 3, 1) := by decide +kernel
theorem dM_lose_22 : decode bM_lose 22 = .ok (.invokevirtual 105, 3) := by decide +kernel
theorem dM_lose_25 : decode bM_lose 25 = .ok (.ifCond .eq 47, 3) := by decide +kernel
theorem dM_lose_28 : decode bM_lose 28 = .ok (.aload_n 0, 1) := by decide +kernel
theorem dM_lose_29 : decode bM_lose 29 = .ok (.getfield 22, 3) := by decide +kernel
theorem dM_lose_32 : decode bM_lose 32 = .ok (.iload_n 3, 1) := by decide +kernel
theorem dM_lose_33 : decode bM_lose 33 = .ok (.iaload, 1) := by decide +kernel
theorem dM_lose_34 : decode bM_lose 34 = .ok (.iload_n 1, 1) := by decide +kernel
theorem dM_lose_35 : decode bM_lose 35 = .ok (.if_icmp .ne 37, 3) := by decide +kernel
theorem dM_lose_38 : decode bM_lose 38 = .ok (.aload_n 0, 1) := by decide +kernel
theorem dM_lose_39 : decode bM_lose 39 = .ok (.getfield 7, 3) := by decide +kernel
theorem dM_lose_42 : decode bM_lose 42 = .ok (.iload_n 3, 1) := by decide +kernel
theorem dM_lose_43 : decode bM_lose 43 = .ok (.iaload, 1) := by decide +kernel
theorem dM_lose_44 : decode bM_lose 44 = .ok (.iconst 3, 1) := by decide +kernel
theorem dM_lose_45 : decode bM_lose 45 = .ok (.if_icmp .ne 6, 3) := by decide +kernel
theorem dM_lose_48 : decode bM_lose 48 = .ok (.iinc 2 1, 3) := by decide +kernel
theorem dM_lose_51 : decode bM_lose 51 = .ok (.aload_n 0, 1) := by decide +kernel
theorem dM_lose_52 : decode bM_lose 52 = .ok (.getfield 7, 3) := by decide +kernel
theorem dM_lose_55 : decode bM_lose 55 = .ok (.iload_n 3, 1) := by decide +kernel
theorem dM_lose_56 : decode bM_lose 56 = .ok (.aload_n 0, 1) := by decide +kernel
theorem dM_lose_57 : decode bM_lose 57 = .ok (.getfield 7, 3) := by decide +kernel
theorem dM_lose_60 : decode bM_lose 60 = .ok (.iload_n 3, 1) := by decide +kernel
theorem dM_lose_61 : decode bM_lose 61 = .ok (.iaload, 1) := by decide +kernel
theorem dM_lose_62 : decode bM_lose 62 = .ok (.iconst 3, 1) := by decide +kernel
theorem dM_lose_63 : decode bM_lose 63 = .ok (.if_icmp .ne 7, 3) := by decide +kernel
theorem dM_lose_66 : decode bM_lose 66 = .ok (.iconst 4, 1) := by decide +kernel
theorem dM_lose_67 : decode bM_lose 67 = .ok (.goto 4, 3) := by decide +kernel
theorem dM_lose_70 : decode bM_lose 70 = .ok (.iconst 1, 1) := by decide +kernel
theorem dM_lose_71 : decode bM_lose 71 = .ok (.iastore, 1) := by decide +kernel
theorem dM_lose_72 : decode bM_lose 72 = .ok (.iinc 3 1, 3) := by decide +kernel
theorem dM_lose_75 : decode bM_lose 75 = .ok (.goto (-61), 3) := by decide +kernel
theorem dM_lose_78 : decode bM_lose 78 = .ok (.aload_n 0, 1) := by decide +kernel
theorem dM_lose_79 : decode bM_lose 79 = .ok (.getfield 32, 3) := by decide +kernel
theorem dM_lose_82 : decode bM_lose 82 = .ok (.iload_n 1, 1) := by decide +kernel
theorem dM_lose_83 : decode bM_lose 83 = .ok (.iconst 0, 1) := by decide +kernel
theorem dM_lose_84 : decode bM_lose 84 = .ok (.iastore, 1) := by decide +kernel
theorem dM_lose_85 : decode bM_lose 85 = .ok (.aload_n 0, 1) := by decide +kernel
theorem dM_lose_86 : decode bM_lose 86 = .ok (.getfield 41, 3) := by decide +kernel
theorem dM_lose_89 : decode bM_lose 89 = .ok (.iload_n 1, 1) := by decide +kernel
theorem dM_lose_90 : decode bM_lose 90 = .ok (.if_icmp .ne 8, 3) := by decide +kernel
theorem dM_lose_93 : decode bM_lose 93 = .ok (.aload_n 0, 1) := by decide +kernel
theorem dM_lose_94 : decode bM_lose 94 = .ok (.iconst (-1), 1) := by decide +kernel
theorem dM_lose_95 : decode bM_lose 95 = .ok (.putfield 41, 3) := by decide +kernel
theorem dM_lose_98 : decode bM_lose 98 = .ok (.iload_n 2, 1) := by decide +kernel
theorem dM_lose_99 : decode bM_lose 99 = .ok (.ireturn, 1) := by decide +kernel
theorem dM_file_0 : decode bM_file 0 = .ok (.iload_n 1, 1) := by decide +kernel
theorem dM_file_1 : decode bM_file 1 = .ok (.bipush 16, 2) := by decide +kernel
theorem dM_file_3 : decode bM_file 3 = .ok (.invokestatic 51, 3) := by decide +kernel
theorem dM_file_6 : decode bM_file 6 = .ok (.ifCond .eq 12, 3) := by decide +kernel
theorem dM_file_9 : decode bM_file 9 = .ok (.iload_n 2, 1) := by decide +kernel
theorem dM_file_10 : decode bM_file 10 = .ok (.bipush 6, 2) := by decide +kernel
theorem dM_file_12 : decode bM_file 12 = .ok (.invokestatic 51, 3) := by decide +kernel
theorem dM_file_15 : decode bM_file 15 = .ok (.ifCond .ne 5, 3) := by decide +kernel
theorem dM_file_18 : decode bM_file 18 = .ok (.iconst (-1), 1) := by decide +kernel
theorem dM_file_19 : decode bM_file 19 = .ok (.ireturn, 1) := by decide +kernel
theorem dM_file_20 : decode bM_file 20 = .ok (.iload_n 2, 1) := by decide +kernel
theorem dM_file_21 : decode bM_file 21 = .ok (.ifCond .ne 10, 3) := by decide +kernel
theorem dM_file_24 : decode bM_file 24 = .ok (.aload_n 0, 1) := by decide +kernel
theorem dM_file_25 : decode bM_file 25 = .ok (.getfield 7, 3) := by decide +kernel
theorem dM_file_28 : decode bM_file 28 = .ok (.iload_n 1, 1) := by decide +kernel
theorem dM_file_29 : decode bM_file 29 = .ok (.iaload, 1) := by decide +kernel
theorem dM_file_30 : decode bM_file 30 = .ok (.ireturn, 1) := by decide +kernel
theorem dM_file_31 : decode bM_file 31 = .ok (.iload_n 2, 1) := by decide +kernel
theorem dM_file_32 : decode bM_file 32 = .ok (.iconst 1, 1) := by decide +kernel
theorem dM_file_33 : decode bM_file 33 = .ok (.if_icmp .ne 23, 3) := by decide +kernel
theorem dM_file_36 : decode bM_file 36 = .ok (.aload_n 0, 1) := by decide +kernel
theorem dM_file_37 : decode bM_file 37 = .ok (.getfield 7, 3) := by decide +kernel
theorem dM_file_40 : decode bM_file 40 = .ok (.iload_n 1, 1) := by decide +kernel
theorem dM_file_41 : decode bM_file 41 = .ok (.iaload, 1) := by decide +kernel
theorem dM_file_42 : decode bM_file 42 = .ok (.ifCond .ne 7, 3) := by decide +kernel
theorem dM_file_45 : decode bM_file 45 = .ok (.iconst 0, 1) := by decide +kernel
theorem dM_file_46 : decode bM_file 46 = .ok (.goto 9, 3) := by decide +kernel
theorem dM_file_49 : decode bM_file 49 = .ok (.aload_n 0, 1) := by decide +kernel
theorem dM_file_50 : decode bM_file 50 = .ok (.getfield 13, 3) := by decide +kernel
theorem dM_file_53 : decode bM_file 53 = .ok (.iload_n 1, 1) := by decide +kernel
theorem dM_file_54 : decode bM_file 54 = .ok (.iaload, 1) := by decide +kernel
theorem dM_file_55 : decode bM_file 55 = .ok (.ireturn, 1) := by decide +kernel
theorem dM_file_56 : decode bM_file 56 = .ok (.iload_n 2, 1) := by decide +kernel
theorem dM_file_57 : decode bM_file 57 = .ok (.iconst 2, 1) := by decide +kernel
theorem dM_file_58 : decode bM_file 58 = .ok (.if_icmp .eq 8, 3) := by decide +kernel
theorem dM_file_61 : decode bM_file 61 = .ok (.iload_n 2, 1) := by decide +kernel
theorem dM_file_62 : decode bM_file 62 = .ok (.iconst 3, 1) := by decide +kernel
theorem dM_file_63 : decode bM_file 63 = .ok (.if_icmp .ne 36, 3) := by decide +kernel
theorem dM_file_66 : decode bM_file 66 = .ok (.aload_n 0, 1) := by decide +kernel
theorem dM_file_67 : decode bM_file 67 = .ok (.iload_n 1, 1) := by decide +kernel
theorem dM_file_68 : decode bM_file 68 = .ok (.invokevirtual 105, 3) := by decide +kernel
theorem dM_file_71 : decode bM_file 71 = .ok (.ifCond .ne 7, 3) := by decide +kernel
theorem dM_file_74 : decode bM_file 74 = .ok (.iconst (-1), 1) := by decide +kernel
theorem dM_file_75 : decode bM_file 75 = .ok (.goto 23, 3) := by decide +kernel
theorem dM_file_78 : decode bM_file 78 = .ok (.iload_n 2, 1) := by decide +kernel
theorem dM_file_79 : decode bM_file 79 = .ok (.iconst 2, 1) := by decide +kernel
theorem dM_file_80 : decode bM_file 80 = .ok (.if_icmp .ne 12, 3) := by decide +kernel
theorem dM_file_83 : decode bM_file 83 = .ok (.aload_n 0, 1) := by decide +kernel
theorem dM_file_84 : decode bM_file 84 = .ok (.getfield 22, 3) := by decide +kernel
theorem dM_file_87 : decode bM_file 87 = .ok (.iload_n 1, 1) := by decide +kernel
theorem dM_file_88 : decode bM_file 88 = .ok (.iaload, 1) := by decide +kernel
theorem dM_file_89 : decode bM_file 89 = .ok (.goto 9, 3) := by decide +kernel
theorem dM_file_92 : decode bM_file 92 = .ok (.aload_n 0, 1) := by decide +kernel
theorem dM_file_93 : decode bM_file 93 = .ok (.getfield 25, 3) := by decide +kernel
theorem dM_file_96 : decode bM_file 96 = .ok (.iload_n 1, 1) := by decide +kernel
theorem dM_file_97 : decode bM_file 97 = .ok (.iaload, 1) := by decide +kernel
theorem dM_file_98 : decode bM_file 98 = .ok (.ireturn, 1) := by decide +kernel
theorem dM_file_99 : decode bM_file 99 = .ok (.iload_n 2, 1) := by decide +kernel
theorem dM_file_100 : decode bM_file 100 = .ok (.iconst 4, 1) := by decide +kernel
theorem dM_file_101 : decode bM_file 101 = .ok (.if_icmp .ne 18, 3) := by decide +kernel
theorem dM_file_104 : decode bM_file 104 = .ok (.aload_n 0, 1) := by decide +kernel
theorem dM_file_105 : decode bM_file 105 = .ok (.getfield 28, 3) := by decide +kernel
theorem dM_file_108 : decode bM_file 108 = .ok (.iload_n 1, 1) := by decide +kernel
theorem dM_file_109 : decode bM_file 109 = .ok (.baload, 1) := by decide +kernel
theorem dM_file_110 : decode bM_file 110 = .ok (.ifCond .eq 7, 3) := by decide +kernel
theorem dM_file_113 : decode bM_file 113 = .ok (.iconst 1, 1) := by decide +kernel
theorem dM_file_114 : decode bM_file 114 = .ok (.goto 4, 3) := by decide +kernel
theorem dM_file_117 : decode bM_file 117 = .ok (.iconst 0, 1) := by decide +kernel
theorem dM_file_118 : decode bM_file 118 = .ok (.ireturn, 1) := by decide +kernel
theorem dM_file_119 : decode bM_file 119 = .ok (.aload_n 0, 1) := by decide +kernel
theorem dM_file_120 : decode bM_file 120 = .ok (.getfield 7, 3) := by decide +kernel
theorem dM_file_123 : decode bM_file 123 = .ok (.iload_n 1, 1) := by decide +kernel
theorem dM_file_124 : decode bM_file 124 = .ok (.iaload, 1) := by decide +kernel
theorem dM_file_125 : decode bM_file 125 = .ok (.ifCond .ne 5, 3) := by decide +kernel
theorem dM_file_128 : decode bM_file 128 = .ok (.iconst (-1), 1) := by decide +kernel
theorem dM_file_129 : decode bM_file 129 = .ok (.ireturn, 1) := by decide +kernel
theorem dM_file_130 : decode bM_file 130 = .ok (.iconst 0, 1) := by decide +kernel
theorem dM_file_131 : decode bM_file 131 = .ok (.istore_n 3, 1) := by decide +kernel
theorem dM_file_132 : decode bM_file 132 = .ok (.iconst 0, 1) := by decide +kernel
theorem dM_file_133 : decode bM_file 133 = .ok (.istore 4, 2) := by decide +kernel
theorem dM_file_135 : decode bM_file 135 = .ok (.iload 4, 2) := by decide +kernel
theorem dM_file_137 : decode bM_file 137 = .ok (.bipush 16, 2) := by decide +kernel
theorem dM_file_139 : decode bM_file 139 = .ok (.if_icmp .ge 38, 3) := by decide +kernel
theorem dM_file_142 : decode bM_file 142 = .ok (.aload_n 0, 1) := by decide +kernel
theorem dM_file_143 : decode bM_file 143 = .ok (.getfield 7, 3) := by decide +kernel
theorem dM_file_146 : decode bM_file 146 = .ok (.iload 4, 2) := by decide +kernel
theorem dM_file_148 : decode bM_file 148 = .ok (.iaload, 1) := by decide +kernel
theorem dM_file_149 : decode bM_file 149 = .ok (.ifCond .eq 22, 3) := by decide +kernel
theorem dM_file_152 : decode bM_file 152 = .ok (.aload_n 0, 1) := by decide +kernel
theorem dM_file_153 : decode bM_file 153 = .ok (.getfield 19, 3) := by decide +kernel
theorem dM_file_156 : decode bM_file 156 = .ok (.iload 4, 2) := by decide +kernel
theorem dM_file_158 : decode bM_file 158 = .ok (.iaload, 1) := by decide +kernel
theorem dM_file_159 : decode bM_file 159 = .ok (.aload_n 0, 1) := by decide +kernel
theorem dM_file_160 : decode bM_file 160 = .ok (.getfield 19, 3) := by decide +kernel
theorem dM_file_163 : decode bM_file 163 = .ok (.iload_n 1, 1) := by decide +kernel
theorem dM_file_164 : decode bM_file 164 = .ok (.iaload, 1) := by decide +kernel
theorem dM_file_165 : decode bM_file 165 = .ok (.if_icmp .le 6, 3) := by decide +kernel
theorem dM_file_168 : decode bM_file 168 = .ok (.iinc 3 1, 3) := by decide +kernel
theorem dM_file_171 : decode bM_file 171 = .ok (.iinc 4 1, 3) := by decide +kernel
theorem dM_file_174 : decode bM_file 174 = .ok (.goto (-39), 3) := by decide +kernel
theorem dM_file_177 : decode bM_file 177 = .ok (.iload_n 3, 1) := by decide +kernel
theorem dM_file_178 : decode bM_file 178 = .ok (.ireturn, 1) := by decide +kernel
theorem dM_cartridge_0 : decode bM_cartridge 0 = .ok (.iload_n 1, 1) := by decide +kernel
theorem dM_cartridge_1 : decode bM_cartridge 1 = .ok (.iconst 4, 1) := by decide +kernel
theorem dM_cartridge_2 : decode bM_cartridge 2 = .ok (.invokestatic 51, 3) := by decide +kernel
theorem dM_cartridge_5 : decode bM_cartridge 5 = .ok (.ifCond .eq 11, 3) := by decide +kernel
theorem dM_cartridge_8 : decode bM_cartridge 8 = .ok (.iload_n 2, 1) := by decide +kernel
theorem dM_cartridge_9 : decode bM_cartridge 9 = .ok (.iconst 3, 1) := by decide +kernel
theorem dM_cartridge_10 : decode bM_cartridge 10 = .ok (.invokestatic 51, 3) := by decide +kernel
theorem dM_cartridge_13 : decode bM_cartridge 13 = .ok (.ifCond .ne 5, 3) := by decide +kernel
theorem dM_cartridge_16 : decode bM_cartridge 16 = .ok (.iconst (-1), 1) := by decide +kernel
theorem dM_cartridge_17 : decode bM_cartridge 17 = .ok (.ireturn, 1) := by decide +kernel
theorem dM_cartridge_18 : decode bM_cartridge 18 = .ok (.iload_n 2, 1) := by decide +kernel
theorem dM_cartridge_19 : decode bM_cartridge 19 = .ok (.ifCond .ne 10, 3) := by decide +kernel
theorem dM_cartridge_22 : decode bM_cartridge 22 = .ok (.aload_n 0, 1) := by decide +kernel
theorem dM_cartridge_23 : decode bM_cartridge 23 = .ok (.getfield 32, 3) := by decide +kernel
theorem dM_cartridge_26 : decode bM_cartridge 26 = .ok (.iload_n 1, 1) := by decide +kernel
theorem dM_cartridge_27 : decode bM_cartridge 27 = .ok (.iaload, 1) := by decide +kernel
theorem dM_cartridge_28 : decode bM_cartridge 28 = .ok (.ireturn, 1) := by decide +kernel
theorem dM_cartridge_29 : decode bM_cartridge 29 = .ok (.iload_n 2, 1) := by decide +kernel
theorem dM_cartridge_30 : decode bM_cartridge 30 = .ok (.iconst 2, 1) := by decide +kernel
theorem dM_cartridge_31 : decode bM_cartridge 31 = .ok (.if_icmp .ne 17, 3) := by decide +kernel
theorem dM_cartridge_34 : decode bM_cartridge 34 = .ok (.aload_n 0, 1) := by decide +kernel
theorem dM_cartridge_35 : decode bM_cartridge 35 = .ok (.getfield 41, 3) := by decide +kernel
theorem dM_cartridge_38 : decode bM_cartridge 38 = .ok (.iload_n 1, 1) := by decide +kernel
theorem dM_cartridge_39 : decode bM_cartridge 39 = .ok (.if_icmp .ne 7, 3) := by decide +kernel
theorem dM_cartridge_42 : decode bM_cartridge 42 = .ok (.iconst 1, 1) := by decide +kernel
theorem dM_cartridge_43 : decode bM_cartridge 43 = .ok (.goto 4, 3) := by decide +kernel
theorem dM_cartridge_46 : decode bM_cartridge 46 = .ok (.iconst 0, 1) := by decide +kernel
theorem dM_cartridge_47 : decode bM_cartridge 47 = .ok (.ireturn, 1) := by decide +kernel
theorem dM_cartridge_48 : decode bM_cartridge 48 = .ok (.iconst 0, 1) := by decide +kernel
theorem dM_cartridge_49 : decode bM_cartridge 49 = .ok (.istore_n 3, 1) := by decide +kernel
theorem dM_cartridge_50 : decode bM_cartridge 50 = .ok (.iconst 0, 1) := by decide +kernel
theorem dM_cartridge_51 : decode bM_cartridge 51 = .ok (.istore 4, 2) := by decide +kernel
theorem dM_cartridge_53 : decode bM_cartridge 53 = .ok (.iload 4, 2) := by decide +kernel
theorem dM_cartridge_55 : decode bM_cartridge 55 = .ok (.bipush 16, 2) := by decide +kernel
theorem dM_cartridge_57 : decode bM_cartridge 57 = .ok (.if_icmp .ge 39, 3) := by decide +kernel
theorem dM_cartridge_60 : decode bM_cartridge 60 = .ok (.aload_n 0, 1) := by decide +kernel
theorem dM_cartridge_61 : decode bM_cartridge 61 = .ok (.iload 4, 2) := by decide +kernel
theorem dM_cartridge_63 : decode bM_cartridge 63 = .ok (.invokevirtual 105, 3) := by decide +kernel
theorem dM_cartridge_66 : decode bM_cartridge 66 = .ok (.ifCond .eq 24, 3) := by decide +kernel
theorem dM_cartridge_69 : decode bM_cartridge 69 = .ok (.aload_n 0, 1) := by decide +kernel
theorem dM_cartridge_70 : decode bM_cartridge 70 = .ok (.getfield 22, 3) := by decide +kernel
theorem dM_cartridge_73 : decode bM_cartridge 73 = .ok (.iload 4, 2) := by decide +kernel
theorem dM_cartridge_75 : decode bM_cartridge 75 = .ok (.iaload, 1) := by decide +kernel
theorem dM_cartridge_76 : decode bM_cartridge 76 = .ok (.iload_n 1, 1) := by decide +kernel
theorem dM_cartridge_77 : decode bM_cartridge 77 = .ok (.if_icmp .ne 13, 3) := by decide +kernel
theorem dM_cartridge_80 : decode bM_cartridge 80 = .ok (.iload_n 3, 1) := by decide +kernel
theorem dM_cartridge_81 : decode bM_cartridge 81 = .ok (.aload_n 0, 1) := by decide +kernel
theorem dM_cartridge_82 : decode bM_cartridge 82 = .ok (.getfield 13, 3) := by decide +kernel
theorem dM_cartridge_85 : decode bM_cartridge 85 = .ok (.iload 4, 2) := by decide +kernel
theorem dM_cartridge_87 : decode bM_cartridge 87 = .ok (.iaload, 1) := by decide +kernel
theorem dM_cartridge_88 : decode bM_cartridge 88 = .ok (.iadd, 1) := by decide +kernel
theorem dM_cartridge_89 : decode bM_cartridge 89 = .ok (.istore_n 3, 1) := by decide +kernel
theorem dM_cartridge_90 : decode bM_cartridge 90 = .ok (.iinc 4 1, 3) := by decide +kernel
theorem dM_cartridge_93 : decode bM_cartridge 93 = .ok (.goto (-40), 3) := by decide +kernel
theorem dM_cartridge_96 : decode bM_cartridge 96 = .ok (.iload_n 3, 1) := by decide +kernel
theorem dM_cartridge_97 : decode bM_cartridge 97 = .ok (.ireturn, 1) := by decide +kernel
theorem dM_count_0 : decode bM_count 0 = .ok (.iload_n 1, 1) := by decide +kernel
theorem dM_count_1 : decode bM_count 1 = .ok (.ifCond .ne 8, 3) := by decide +kernel
theorem dM_count_4 : decode bM_count 4 = .ok (.aload_n 0, 1) := by decide +kernel
theorem dM_count_5 : decode bM_count 5 = .ok (.invokevirtual 58, 3) := by decide +kernel
theorem dM_count_8 : decode bM_count 8 = .ok (.ireturn, 1) := by decide +kernel
theorem dM_count_9 : decode bM_count 9 = .ok (.iload_n 1, 1) := by decide +kernel
theorem dM_count_10 : decode bM_count 10 = .ok (.iconst 1, 1) := by decide +kernel
theorem dM_count_11 : decode bM_count 11 = .ok (.if_icmp .ne 8, 3) := by decide +kernel
theorem dM_count_14 : decode bM_count 14 = .ok (.aload_n 0, 1) := by decide +kernel
theorem dM_count_15 : decode bM_count 15 = .ok (.getfield 66, 3) := by decide +kernel
theorem dM_count_18 : decode bM_count 18 = .ok (.ireturn, 1) := by decide +kernel
theorem dM_count_19 : decode bM_count 19 = .ok (.iload_n 1, 1) := by decide +kernel
theorem dM_count_20 : decode bM_count 20 = .ok (.iconst 2, 1) := by decide +kernel
theorem dM_count_21 : decode bM_count 21 = .ok (.if_icmp .ne 19, 3) := by decide +kernel
theorem dM_count_24 : decode bM_count 24 = .ok (.aload_n 0, 1) := by decide +kernel
theorem dM_count_25 : decode bM_count 25 = .ok (.getfield 41, 3) := by decide +kernel
theorem dM_count_28 : decode bM_count 28 = .ok (.ifCond .ge 7, 3) := by decide +kernel
theorem dM_count_31 : decode bM_count 31 = .ok (.iconst 0, 1) := by decide +kernel
theorem dM_count_32 : decode bM_count 32 = .ok (.goto 7, 3) := by decide +kernel
theorem dM_count_35 : decode bM_count 35 = .ok (.aload_n 0, 1) := by decide +kernel
theorem dM_count_36 : decode bM_count 36 = .ok (.getfield 69, 3) := by decide +kernel
theorem dM_count_39 : decode bM_count 39 = .ok (.ireturn, 1) := by decide +kernel
theorem dM_count_40 : decode bM_count 40 = .ok (.iload_n 1, 1) := by decide +kernel
theorem dM_count_41 : decode bM_count 41 = .ok (.iconst 3, 1) := by decide +kernel
theorem dM_count_42 : decode bM_count 42 = .ok (.if_icmp .ne 10, 3) := by decide +kernel
theorem dM_count_45 : decode bM_count 45 = .ok (.aload_n 0, 1) := by decide +kernel
theorem dM_count_46 : decode bM_count 46 = .ok (.invokevirtual 99, 3) := by decide +kernel
theorem dM_count_49 : decode bM_count 49 = .ok (.goto 4, 3) := by decide +kernel
theorem dM_count_52 : decode bM_count 52 = .ok (.iconst (-1), 1) := by decide +kernel
theorem dM_count_53 : decode bM_count 53 = .ok (.ireturn, 1) := by decide +kernel
