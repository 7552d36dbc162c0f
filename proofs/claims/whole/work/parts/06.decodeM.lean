theorem dX10_init_0 : decode cX10_init 0 = .ok (.aload_n 0, 1) := by decide +kernel
theorem dX10_init_1 : decode cX10_init 1 = .ok (.invokespecial 1, 3) := by decide +kernel
theorem dX10_init_4 : decode cX10_init 4 = .ok (.aload_n 0, 1) := by decide +kernel
theorem dX10_init_5 : decode cX10_init 5 = .ok (.bipush 49, 2) := by decide +kernel
theorem dX10_init_7 : decode cX10_init 7 = .ok (.newarray .int, 2) := by decide +kernel
theorem dX10_init_9 : decode cX10_init 9 = .ok (.putfield 7, 3) := by decide +kernel
theorem dX10_init_12 : decode cX10_init 12 = .ok (.aload_n 0, 1) := by decide +kernel
theorem dX10_init_13 : decode cX10_init 13 = .ok (.sipush 294, 3) := by decide +kernel
theorem dX10_init_16 : decode cX10_init 16 = .ok (.newarray .int, 2) := by decide +kernel
theorem dX10_init_18 : decode cX10_init 18 = .ok (.putfield 13, 3) := by decide +kernel
theorem dX10_init_21 : decode cX10_init 21 = .ok (.aload_n 0, 1) := by decide +kernel
theorem dX10_init_22 : decode cX10_init 22 = .ok (.bipush 98, 2) := by decide +kernel
theorem dX10_init_24 : decode cX10_init 24 = .ok (.newarray .int, 2) := by decide +kernel
theorem dX10_init_26 : decode cX10_init 26 = .ok (.putfield 16, 3) := by decide +kernel
theorem dX10_init_29 : decode cX10_init 29 = .ok (.aload_n 0, 1) := by decide +kernel
theorem dX10_init_30 : decode cX10_init 30 = .ok (.iconst 2, 1) := by decide +kernel
theorem dX10_init_31 : decode cX10_init 31 = .ok (.newarray .boolean, 2) := by decide +kernel
theorem dX10_init_33 : decode cX10_init 33 = .ok (.putfield 19, 3) := by decide +kernel
theorem dX10_init_36 : decode cX10_init 36 = .ok (.aload_n 0, 1) := by decide +kernel
theorem dX10_init_37 : decode cX10_init 37 = .ok (.bipush 60, 2) := by decide +kernel
theorem dX10_init_39 : decode cX10_init 39 = .ok (.newarray .int, 2) := by decide +kernel
theorem dX10_init_41 : decode cX10_init 41 = .ok (.putfield 23, 3) := by decide +kernel
theorem dX10_init_44 : decode cX10_init 44 = .ok (.aload_n 0, 1) := by decide +kernel
theorem dX10_init_45 : decode cX10_init 45 = .ok (.bipush 49, 2) := by decide +kernel
theorem dX10_init_47 : decode cX10_init 47 = .ok (.newarray .int, 2) := by decide +kernel
theorem dX10_init_49 : decode cX10_init 49 = .ok (.putfield 26, 3) := by decide +kernel
theorem dX10_init_52 : decode cX10_init 52 = .ok (.aload_n 0, 1) := by decide +kernel
theorem dX10_init_53 : decode cX10_init 53 = .ok (.bipush 84, 2) := by decide +kernel
theorem dX10_init_55 : decode cX10_init 55 = .ok (.newarray .int, 2) := by decide +kernel
theorem dX10_init_57 : decode cX10_init 57 = .ok (.putfield 29, 3) := by decide +kernel
theorem dX10_init_60 : decode cX10_init 60 = .ok (.aload_n 0, 1) := by decide +kernel
theorem dX10_init_61 : decode cX10_init 61 = .ok (.bipush 84, 2) := by decide +kernel
theorem dX10_init_63 : decode cX10_init 63 = .ok (.newarray .int, 2) := by decide +kernel
theorem dX10_init_65 : decode cX10_init 65 = .ok (.putfield 32, 3) := by decide +kernel
theorem dX10_init_68 : decode cX10_init 68 = .ok (.aload_n 0, 1) := by decide +kernel
theorem dX10_init_69 : decode cX10_init 69 = .ok (.bipush 84, 2) := by decide +kernel
theorem dX10_init_71 : decode cX10_init 71 = .ok (.newarray .boolean, 2) := by decide +kernel
theorem dX10_init_73 : decode cX10_init 73 = .ok (.putfield 35, 3) := by decide +kernel
theorem dX10_init_76 : decode cX10_init 76 = .ok (.aload_n 0, 1) := by decide +kernel
theorem dX10_init_77 : decode cX10_init 77 = .ok (.bipush 49, 2) := by decide +kernel
theorem dX10_init_79 : decode cX10_init 79 = .ok (.newarray .int, 2) := by decide +kernel
theorem dX10_init_81 : decode cX10_init 81 = .ok (.putfield 38, 3) := by decide +kernel
theorem dX10_init_84 : decode cX10_init 84 = .ok (.aload_n 0, 1) := by decide +kernel
theorem dX10_init_85 : decode cX10_init 85 = .ok (.bipush 49, 2) := by decide +kernel
theorem dX10_init_87 : decode cX10_init 87 = .ok (.newarray .int, 2) := by decide +kernel
theorem dX10_init_89 : decode cX10_init 89 = .ok (.putfield 41, 3) := by decide +kernel
theorem dX10_init_92 : decode cX10_init 92 = .ok (.return_, 1) := by decide +kernel
theorem dX10_thrown_0 : decode cX10_thrown 0 = .ok (.aload_n 0, 1) := by decide +kernel
theorem dX10_thrown_1 : decode cX10_thrown 1 = .ok (.getfield 44, 3) := by decide +kernel
theorem dX10_thrown_4 : decode cX10_thrown 4 = .ok (.ireturn, 1) := by decide +kernel
theorem dX10_throwing_0 : decode cX10_throwing 0 = .ok (.aload_n 0, 1) := by decide +kernel
theorem dX10_throwing_1 : decode cX10_throwing 1 = .ok (.iload_n 1, 1) := by decide +kernel
theorem dX10_throwing_2 : decode cX10_throwing 2 = .ok (.putfield 44, 3) := by decide +kernel
theorem dX10_throwing_5 : decode cX10_throwing 5 = .ok (.iconst 0, 1) := by decide +kernel
theorem dX10_throwing_6 : decode cX10_throwing 6 = .ok (.ireturn, 1) := by decide +kernel
theorem dX10_in_0 : decode cX10_in 0 = .ok (.iload_n 0, 1) := by decide +kernel
theorem dX10_in_1 : decode cX10_in 1 = .ok (.iload_n 1, 1) := by decide +kernel
theorem dX10_in_2 : decode cX10_in 2 = .ok (.if_icmp .lt 12, 3) := by decide +kernel
theorem dX10_in_5 : decode cX10_in 5 = .ok (.iload_n 0, 1) := by decide +kernel
theorem dX10_in_6 : decode cX10_in 6 = .ok (.iload_n 2, 1) := by decide +kernel
theorem dX10_in_7 : decode cX10_in 7 = .ok (.if_icmp .gt 7, 3) := by decide +kernel
theorem dX10_in_10 : decode cX10_in 10 = .ok (.iconst 1, 1) := by decide +kernel
theorem dX10_in_11 : decode cX10_in 11 = .ok (.goto 4, 3) := by decide +kernel
theorem dX10_in_14 : decode cX10_in 14 = .ok (.iconst 0, 1) := by decide +kernel
theorem dX10_in_15 : decode cX10_in 15 = .ok (.ireturn, 1) := by decide +kernel
theorem dX10_isPoint_0 : decode cX10_isPoint 0 = .ok (.iload_n 0, 1) := by decide +kernel
theorem dX10_isPoint_1 : decode cX10_isPoint 1 = .ok (.iconst 0, 1) := by decide +kernel
theorem dX10_isPoint_2 : decode cX10_isPoint 2 = .ok (.bipush 6, 2) := by decide +kernel
theorem dX10_isPoint_4 : decode cX10_isPoint 4 = .ok (.invokestatic 48, 3) := by decide +kernel
theorem dX10_isPoint_7 : decode cX10_isPoint 7 = .ok (.ifCond .eq 17, 3) := by decide +kernel
theorem dX10_isPoint_10 : decode cX10_isPoint 10 = .ok (.iload_n 1, 1) := by decide +kernel
theorem dX10_isPoint_11 : decode cX10_isPoint 11 = .ok (.iconst 0, 1) := by decide +kernel
theorem dX10_isPoint_12 : decode cX10_isPoint 12 = .ok (.bipush 6, 2) := by decide +kernel
theorem dX10_isPoint_14 : decode cX10_isPoint 14 = .ok (.invokestatic 48, 3) := by decide +kernel
theorem dX10_isPoint_17 : decode cX10_isPoint 17 = .ok (.ifCond .eq 7, 3) := by decide +kernel
theorem dX10_isPoint_20 : decode cX10_isPoint 20 = .ok (.iconst 1, 1) := by decide +kernel
theorem dX10_isPoint_21 : decode cX10_isPoint 21 = .ok (.goto 4, 3) := by decide +kernel
theorem dX10_isPoint_24 : decode cX10_isPoint 24 = .ok (.iconst 0, 1) := by decide +kernel
theorem dX10_isPoint_25 : decode cX10_isPoint 25 = .ok (.ireturn, 1) := by decide +kernel
theorem dX10_size_0 : decode cX10_size 0 = .ok (.iload_n 0, 1) := by decide +kernel
theorem dX10_size_1 : decode cX10_size 1 = .ok (.ifCond .ge 8, 3) := by decide +kernel
theorem dX10_size_4 : decode cX10_size 4 = .ok (.iload_n 0, 1) := by decide +kernel
theorem dX10_size_5 : decode cX10_size 5 = .ok (.ineg, 1) := by decide +kernel
theorem dX10_size_6 : decode cX10_size 6 = .ok (.goto 4, 3) := by decide +kernel
theorem dX10_size_9 : decode cX10_size 9 = .ok (.iload_n 0, 1) := by decide +kernel
theorem dX10_size_10 : decode cX10_size 10 = .ok (.ireturn, 1) := by decide +kernel
theorem dX10_height_0 : decode cX10_height 0 = .ok (.iload_n 0, 1) := by decide +kernel
theorem dX10_height_1 : decode cX10_height 1 = .ok (.ifCond .ge 7, 3) := by decide +kernel
theorem dX10_height_4 : decode cX10_height 4 = .ok (.iconst 0, 1) := by decide +kernel
theorem dX10_height_5 : decode cX10_height 5 = .ok (.goto 15, 3) := by decide +kernel
theorem dX10_height_8 : decode cX10_height 8 = .ok (.iload_n 0, 1) := by decide +kernel
theorem dX10_height_9 : decode cX10_height 9 = .ok (.bipush 99, 2) := by decide +kernel
theorem dX10_height_11 : decode cX10_height 11 = .ok (.if_icmp .le 8, 3) := by decide +kernel
theorem dX10_height_14 : decode cX10_height 14 = .ok (.bipush 99, 2) := by decide +kernel
theorem dX10_height_16 : decode cX10_height 16 = .ok (.goto 4, 3) := by decide +kernel
theorem dX10_height_19 : decode cX10_height 19 = .ok (.iload_n 0, 1) := by decide +kernel
theorem dX10_height_20 : decode cX10_height 20 = .ok (.ireturn, 1) := by decide +kernel
theorem dX10_save_0 : decode cX10_save 0 = .ok (.aload_n 0, 1) := by decide +kernel
theorem dX10_save_1 : decode cX10_save 1 = .ok (.getfield 52, 3) := by decide +kernel
theorem dX10_save_4 : decode cX10_save 4 = .ok (.bipush 6, 2) := by decide +kernel
theorem dX10_save_6 : decode cX10_save 6 = .ok (.if_icmp .ne 43, 3) := by decide +kernel
theorem dX10_save_9 : decode cX10_save 9 = .ok (.iconst 0, 1) := by decide +kernel
theorem dX10_save_10 : decode cX10_save 10 = .ok (.istore_n 1, 1) := by decide +kernel
theorem dX10_save_11 : decode cX10_save 11 = .ok (.iload_n 1, 1) := by decide +kernel
theorem dX10_save_12 : decode cX10_save 12 = .ok (.sipush 245, 3) := by decide +kernel
theorem dX10_save_15 : decode cX10_save 15 = .ok (.if_icmp .ge 24, 3) := by decide +kernel
theorem dX10_save_18 : decode cX10_save 18 = .ok (.aload_n 0, 1) := by decide +kernel
theorem dX10_save_19 : decode cX10_save 19 = .ok (.getfield 13, 3) := by decide +kernel
theorem dX10_save_22 : decode cX10_save 22 = .ok (.iload_n 1, 1) := by decide +kernel
theorem dX10_save_23 : decode cX10_save 23 = .ok (.aload_n 0, 1) := by decide +kernel
theorem dX10_save_24 : decode cX10_save 24 = .ok (.getfield 13, 3) := by decide +kernel
theorem dX10_save_27 : decode cX10_save 27 = .ok (.bipush 49, 2) := by decide +kernel
theorem dX10_save_29 : decode cX10_save 29 = .ok (.iload_n 1, 1) := by decide +kernel
theorem dX10_save_30 : decode cX10_save 30 = .ok (.iadd, 1) := by decide +kernel
theorem dX10_save_31 : decode cX10_save 31 = .ok (.iaload, 1) := by decide +kernel
theorem dX10_save_32 : decode cX10_save 32 = .ok (.iastore, 1) := by decide +kernel
theorem dX10_save_33 : decode cX10_save 33 = .ok (.iinc 1 1, 3) := by decide +kernel
theorem dX10_save_36 : decode cX10_save 36 = .ok (.goto (-25), 3) := by decide +kernel
theorem dX10_save_39 : decode cX10_save 39 = .ok (.aload_n 0, 1) := by decide +kernel
theorem dX10_save_40 : decode cX10_save 40 = .ok (.dup, 1) := by decide +kernel
theorem dX10_save_41 : decode cX10_save 41 = .ok (.getfield 52, 3) := by decide +kernel
theorem dX10_save_44 : decode cX10_save 44 = .ok (.iconst 1, 1) := by decide +kernel
theorem dX10_save_45 : decode cX10_save 45 = .ok (.isub, 1) := by decide +kernel
theorem dX10_save_46 : decode cX10_save 46 = .ok (.putfield 52, 3) := by decide +kernel
theorem dX10_save_49 : decode cX10_save 49 = .ok (.iconst 0, 1) := by decide +kernel
theorem dX10_save_50 : decode cX10_save 50 = .ok (.istore_n 1, 1) := by decide +kernel
theorem dX10_save_51 : decode cX10_save 51 = .ok (.iload_n 1, 1) := by decide +kernel
theorem dX10_save_52 : decode cX10_save 52 = .ok (.bipush 49, 2) := by decide +kernel
theorem dX10_save_54 : decode cX10_save 54 = .ok (.if_icmp .ge 29, 3) := by decide +kernel
theorem dX10_save_57 : decode cX10_save 57 = .ok (.aload_n 0, 1) := by decide +kernel
theorem dX10_save_58 : decode cX10_save 58 = .ok (.getfield 13, 3) := by decide +kernel
theorem dX10_save_61 : decode cX10_save 61 = .ok (.bipush 49, 2) := by decide +kernel
theorem dX10_save_63 : decode cX10_save 63 = .ok (.aload_n 0, 1) := by decide +kernel
theorem dX10_save_64 : decode cX10_save 64 = .ok (.getfield 52, 3) := by decide +kernel
theorem dX10_save_67 : decode cX10_save 67 = .ok (.imul, 1) := by decide +kernel
theorem dX10_save_68 : decode cX10_save 68 = .ok (.iload_n 1, 1) := by decide +kernel
theorem dX10_save_69 : decode cX10_save 69 = .ok (.iadd, 1) := by decide +kernel
theorem dX10_save_70 : decode cX10_save 70 = .ok (.aload_n 0, 1) := by decide +kernel
theorem dX10_save_71 : decode cX10_save 71 = .ok (.getfield 7, 3) := by decide +kernel
theorem dX10_save_74 : decode cX10_save 74 = .ok (.iload_n 1, 1) := by decide +kernel
theorem dX10_save_75 : decode cX10_save 75 = .ok (.iaload, 1) := by decide +kernel
theorem dX10_save_76 : decode cX10_save 76 = .ok (.iastore, 1) := by decide +kernel
theorem dX10_save_77 : decode cX10_save 77 = .ok (.iinc 1 1, 3) := by decide +kernel
theorem dX10_save_80 : decode cX10_save 80 = .ok (.goto (-29), 3) := by decide +kernel
theorem dX10_save_83 : decode cX10_save 83 = .ok (.aload_n 0, 1) := by decide +kernel
theorem dX10_save_84 : decode cX10_save 84 = .ok (.dup, 1) := by decide +kernel
theorem dX10_save_85 : decode cX10_save 85 = .ok (.getfield 52, 3) := by decide +kernel
theorem dX10_save_88 : decode cX10_save 88 = .ok (.iconst 1, 1) := by decide +kernel
theorem dX10_save_89 : decode cX10_save 89 = .ok (.iadd, 1) := by decide +kernel
theorem dX10_save_90 : decode cX10_save 90 = .ok (.putfield 52, 3) := by decide +kernel
theorem dX10_save_93 : decode cX10_save 93 = .ok (.return_, 1) := by decide +kernel
theorem dX10_next_0 : decode cX10_next 0 = .ok (.iload_n 0, 1) := by decide +kernel
theorem dX10_next_1 : decode cX10_next 1 = .ok (.bipush 7, 2) := by decide +kernel
theorem dX10_next_3 : decode cX10_next 3 = .ok (.idiv, 1) := by decide +kernel
theorem dX10_next_4 : decode cX10_next 4 = .ok (.iload_n 1, 1) := by decide +kernel
theorem dX10_next_5 : decode cX10_next 5 = .ok (.ifCond .ne 7, 3) := by decide +kernel
theorem dX10_next_8 : decode cX10_next 8 = .ok (.iconst (-1), 1) := by decide +kernel
theorem dX10_next_9 : decode cX10_next 9 = .ok (.goto 13, 3) := by decide +kernel
theorem dX10_next_12 : decode cX10_next 12 = .ok (.iload_n 1, 1) := by decide +kernel
theorem dX10_next_13 : decode cX10_next 13 = .ok (.iconst 2, 1) := by decide +kernel
theorem dX10_next_14 : decode cX10_next 14 = .ok (.if_icmp .ne 7, 3) := by decide +kernel
theorem dX10_next_17 : decode cX10_next 17 = .ok (.iconst 1, 1) := by decide +kernel
theorem dX10_next_18 : decode cX10_next 18 = .ok (.goto 4, 3) := by decide +kernel
theorem dX10_next_21 : decode cX10_next 21 = .ok (.iconst 0, 1) := by decide +kernel
theorem dX10_next_22 : decode cX10_next 22 = .ok (.iadd, 1) := by decide +kernel
theorem dX10_next_23 : decode cX10_next 23 = .ok (.istore_n 2, 1) := by decide +kernel
theorem dX10_next_24 : decode cX10_next 24 = .ok (.iload_n 0, 1) := by decide +kernel
theorem dX10_next_25 : decode cX10_next 25 = .ok (.bipush 7, 2) := by decide +kernel
theorem dX10_next_27 : decode cX10_next 27 = .ok (.irem, 1) := by decide +kernel
theorem dX10_next_28 : decode cX10_next 28 = .ok (.iload_n 1, 1) := by decide +kernel
theorem dX10_next_29 : decode cX10_next 29 = .ok (.iconst 1, 1) := by decide +kernel
theorem dX10_next_30 : decode cX10_next 30 = .ok (.if_icmp .ne 7, 3) := by decide +kernel
theorem dX10_next_33 : decode cX10_next 33 = .ok (.iconst 1, 1) := by decide +kernel
theorem dX10_next_34 : decode cX10_next 34 = .ok (.goto 13, 3) := by decide +kernel
theorem dX10_next_37 : decode cX10_next 37 = .ok (.iload_n 1, 1) := by decide +kernel
theorem dX10_next_38 : decode cX10_next 38 = .ok (.iconst 3, 1) := by decide +kernel
theorem dX10_next_39 : decode cX10_next 39 = .ok (.if_icmp .ne 7, 3) := by decide +kernel
theorem dX10_next_42 : decode cX10_next 42 = .ok (.iconst (-1), 1) := by decide +kernel
theorem dX10_next_43 : decode cX10_next 43 = .ok (.goto 4, 3) := by decide +kernel
theorem dX10_next_46 : decode cX10_next 46 = .ok (.iconst 0, 1) := by decide +kernel
theorem dX10_next_47 : decode cX10_next 47 = .ok (.iadd, 1) := by decide +kernel
theorem dX10_next_48 : decode cX10_next 48 = .ok (.istore_n 3, 1) := by decide +kernel
theorem dX10_next_49 : decode cX10_next 49 = .ok (.iload_n 2, 1) := by decide +kernel
theorem dX10_next_50 : decode cX10_next 50 = .ok (.iload_n 3, 1) := by decide +kernel
theorem dX10_next_51 : decode cX10_next 51 = .ok (.invokestatic 55, 3) := by decide +kernel
theorem dX10_next_54 : decode cX10_next 54 = .ok (.ifCond .eq 12, 3) := by decide +kernel
theorem dX10_next_57 : decode cX10_next 57 = .ok (.bipush 7, 2) := by decide +kernel
theorem dX10_next_59 : decode cX10_next 59 = .ok (.iload_n 2, 1) := by decide +kernel
theorem dX10_next_60 : decode cX10_next 60 = .ok (.imul, 1) := by decide +kernel
theorem dX10_next_61 : decode cX10_next 61 = .ok (.iload_n 3, 1) := by decide +kernel
theorem dX10_next_62 : decode cX10_next 62 = .ok (.iadd, 1) := by decide +kernel
theorem dX10_next_63 : decode cX10_next 63 = .ok (.goto 4, 3) := by decide +kernel
theorem dX10_next_66 : decode cX10_next 66 = .ok (.iconst (-1), 1) := by decide +kernel
theorem dX10_next_67 : decode cX10_next 67 = .ok (.ireturn, 1) := by decide +kernel
theorem dX10_isBorder_0 : decode cX10_isBorder 0 = .ok (.iload_n 0, 1) := by decide +kernel
theorem dX10_isBorder_1 : decode cX10_isBorder 1 = .ok (.bipush 7, 2) := by decide +kernel
theorem dX10_isBorder_3 : decode cX10_isBorder 3 = .ok (.idiv, 1) := by decide +kernel
theorem dX10_isBorder_4 : decode cX10_isBorder 4 = .ok (.ifCond .eq 28, 3) := by decide +kernel
theorem dX10_isBorder_7 : decode cX10_isBorder 7 = .ok (.iload_n 0, 1) := by decide +kernel
theorem dX10_isBorder_8 : decode cX10_isBorder 8 = .ok (.bipush 7, 2) := by decide +kernel
theorem dX10_isBorder_10 : decode cX10_isBorder 10 = .ok (.idiv, 1) := by decide +kernel
theorem dX10_isBorder_11 : decode cX10_isBorder 11 = .ok (.bipush 6, 2) := by decide +kernel
theorem dX10_isBorder_13 : decode cX10_isBorder 13 = .ok (.if_icmp .eq 19, 3) := by decide +kernel
theorem dX10_isBorder_16 : decode cX10_isBorder 16 = .ok (.iload_n 0, 1) := by decide +kernel
theorem dX10_isBorder_17 : decode cX10_isBorder 17 = .ok (.bipush 7, 2) := by decide +kernel
theorem dX10_isBorder_19 : decode cX10_isBorder 19 = .ok (.irem, 1) := by decide +kernel
theorem dX10_isBorder_20 : decode cX10_isBorder 20 = .ok (.ifCond .eq 12, 3) := by decide +kernel
theorem dX10_isBorder_23 : decode cX10_isBorder 23 = .ok (.iload_n 0, 1) := by decide +kernel
theorem dX10_isBorder_24 : decode cX10_isBorder 24 = .ok (.bipush 7, 2) := by decide +kernel
theorem dX10_isBorder_26 : decode cX10_isBorder 26 = .ok (.irem, 1) := by decide +kernel
theorem dX10_isBorder_27 : decode cX10_isBorder 27 = .ok (.bipush 6, 2) := by decide +kernel
theorem dX10_isBorder_29 : decode cX10_isBorder 29 = .ok (.if_icmp .ne 7, 3) := by decide +kernel
theorem dX10_isBorder_32 : decode cX10_isBorder 32 = .ok (.iconst 1, 1) := by decide +kernel
theorem dX10_isBorder_33 : decode cX10_isBorder 33 = .ok (.goto 4, 3) := by decide +kernel
theorem dX10_isBorder_36 : decode cX10_isBorder 36 = .ok (.iconst 0, 1) := by decide +kernel
theorem dX10_isBorder_37 : decode cX10_isBorder 37 = .ok (.ireturn, 1) := by decide +kernel
theorem dX10_takes_0 : decode cX10_takes 0 = .ok (.iconst 0, 1) := by decide +kernel
theorem dX10_takes_1 : decode cX10_takes 1 = .ok (.istore_n 1, 1) := by decide +kernel
theorem dX10_takes_2 : decode cX10_takes 2 = .ok (.iconst 0, 1) := by decide +kernel
theorem dX10_takes_3 : decode cX10_takes 3 = .ok (.istore_n 2, 1) := by decide +kernel
theorem dX10_takes_4 : decode cX10_takes 4 = .ok (.iload_n 2, 1) := by decide +kernel
theorem dX10_takes_5 : decode cX10_takes 5 = .ok (.bipush 49, 2) := by decide +kernel
theorem dX10_takes_7 : decode cX10_takes 7 = .ok (.if_icmp .ge 44, 3) := by decide +kernel
theorem dX10_takes_10 : decode cX10_takes 10 = .ok (.aload_n 0, 1) := by decide +kernel
theorem dX10_takes_11 : decode cX10_takes 11 = .ok (.getfield 26, 3) := by decide +kernel
theorem dX10_takes_14 : decode cX10_takes 14 = .ok (.iload_n 2, 1) := by decide +kernel
theorem dX10_takes_15 : decode cX10_takes 15 = .ok (.iaload, 1) := by decide +kernel
theorem dX10_takes_16 : decode cX10_takes 16 = .ok (.invokestatic 59, 3) := by decide +kernel
theorem dX10_takes_19 : decode cX10_takes 19 = .ok (.istore_n 3, 1) := by decide +kernel
theorem dX10_takes_20 : decode cX10_takes 20 = .ok (.iload_n 1, 1) := by decide +kernel
theorem dX10_takes_21 : decode cX10_takes 21 = .ok (.aload_n 0, 1) := by decide +kernel
theorem dX10_takes_22 : decode cX10_takes 22 = .ok (.getfield 7, 3) := by decide +kernel
theorem dX10_takes_25 : decode cX10_takes 25 = .ok (.iload_n 2, 1) := by decide +kernel
theorem dX10_takes_26 : decode cX10_takes 26 = .ok (.iaload, 1) := by decide +kernel
theorem dX10_takes_27 : decode cX10_takes 27 = .ok (.iload_n 3, 1) := by decide +kernel
theorem dX10_takes_28 : decode cX10_takes 28 = .ok (.if_icmp .ne 7, 3) := by decide +kernel
theorem dX10_takes_31 : decode cX10_takes 31 = .ok (.iconst 0, 1) := by decide +kernel
theorem dX10_takes_32 : decode cX10_takes 32 = .ok (.goto 4, 3) := by decide +kernel
theorem dX10_takes_35 : decode cX10_takes 35 = .ok (.iconst 1, 1) := by decide +kernel
theorem dX10_takes_36 : decode cX10_takes 36 = .ok (.iadd, 1) := by decide +kernel
theorem dX10_takes_37 : decode cX10_takes 37 = .ok (.istore_n 1, 1) := by decide +kernel
theorem dX10_takes_38 : decode cX10_takes 38 = .ok (.aload_n 0, 1) := by decide +kernel
theorem dX10_takes_39 : decode cX10_takes 39 = .ok (.getfield 7, 3) := by decide +kernel
theorem dX10_takes_42 : decode cX10_takes 42 = .ok (.iload_n 2, 1) := by decide +kernel
theorem dX10_takes_43 : decode cX10_takes 43 = .ok (.iload_n 3, 1) := by decide +kernel
theorem dX10_takes_44 : decode cX10_takes 44 = .ok (.iastore, 1) := by decide +kernel
theorem dX10_takes_45 : decode cX10_takes 45 = .ok (.iinc 2 1, 3) := by decide +kernel
theorem dX10_takes_48 : decode cX10_takes 48 = .ok (.goto (-44), 3) := by decide +kernel
theorem dX10_takes_51 : decode cX10_takes 51 = .ok (.iload_n 1, 1) := by decide +kernel
theorem dX10_takes_52 : decode cX10_takes 52 = .ok (.ireturn, 1) := by decide +kernel
theorem dX10_heaps_0 : decode cX10_heaps 0 = .ok (.iload_n 3, 1) := by decide +kernel
theorem dX10_heaps_1 : decode cX10_heaps 1 = .ok (.invokestatic 63, 3) := by decide +kernel
theorem dX10_heaps_4 : decode cX10_heaps 4 = .ok (.istore 4, 2) := by decide +kernel
theorem dX10_heaps_6 : decode cX10_heaps 6 = .ok (.iconst 0, 1) := by decide +kernel
theorem dX10_heaps_7 : decode cX10_heaps 7 = .ok (.istore 5, 2) := by decide +kernel
theorem dX10_heaps_9 : decode cX10_heaps 9 = .ok (.iload 5, 2) := by decide +kernel
theorem dX10_heaps_11 : decode cX10_heaps 11 = .ok (.bipush 49, 2) := by decide +kernel
theorem dX10_heaps_13 : decode cX10_heaps 13 = .ok (.if_icmp .ge 82, 3) := by decide +kernel
theorem dX10_heaps_16 : decode cX10_heaps 16 = .ok (.iload 5, 2) := by decide +kernel
theorem dX10_heaps_18 : decode cX10_heaps 18 = .ok (.bipush 7, 2) := by decide +kernel
theorem dX10_heaps_20 : decode cX10_heaps 20 = .ok (.idiv, 1) := by decide +kernel
theorem dX10_heaps_21 : decode cX10_heaps 21 = .ok (.iload_n 1, 1) := by decide +kernel
theorem dX10_heaps_22 : decode cX10_heaps 22 = .ok (.isub, 1) := by decide +kernel
theorem dX10_heaps_23 : decode cX10_heaps 23 = .ok (.invokestatic 63, 3) := by decide +kernel
theorem dX10_heaps_26 : decode cX10_heaps 26 = .ok (.iload 5, 2) := by decide +kernel
theorem dX10_heaps_28 : decode cX10_heaps 28 = .ok (.bipush 7, 2) := by decide +kernel
theorem dX10_heaps_30 : decode cX10_heaps 30 = .ok (.irem, 1) := by decide +kernel
theorem dX10_heaps_31 : decode cX10_heaps 31 = .ok (.iload_n 2, 1) := by decide +kernel
theorem dX10_heaps_32 : decode cX10_heaps 32 = .ok (.isub, 1) := by decide +kernel
theorem dX10_heaps_33 : decode cX10_heaps 33 = .ok (.invokestatic 63, 3) := by decide +kernel
theorem dX10_heaps_36 : decode cX10_heaps 36 = .ok (.iadd, 1) := by decide +kernel
theorem dX10_heaps_37 : decode cX10_heaps 37 = .ok (.istore 6, 2) := by decide +kernel
theorem dX10_heaps_39 : decode cX10_heaps 39 = .ok (.iload 4, 2) := by decide +kernel
theorem dX10_heaps_41 : decode cX10_heaps 41 = .ok (.iload 4, 2) := by decide +kernel
theorem dX10_heaps_43 : decode cX10_heaps 43 = .ok (.iconst 2, 1) := by decide +kernel
theorem dX10_heaps_44 : decode cX10_heaps 44 = .ok (.iadd, 1) := by decide +kernel
theorem dX10_heaps_45 : decode cX10_heaps 45 = .ok (.iconst 3, 1) := by decide +kernel
theorem dX10_heaps_46 : decode cX10_heaps 46 = .ok (.idiv, 1) := by decide +kernel
theorem dX10_heaps_47 : decode cX10_heaps 47 = .ok (.iload 6, 2) := by decide +kernel
theorem dX10_heaps_49 : decode cX10_heaps 49 = .ok (.imul, 1) := by decide +kernel
theorem dX10_heaps_50 : decode cX10_heaps 50 = .ok (.isub, 1) := by decide +kernel
theorem dX10_heaps_51 : decode cX10_heaps 51 = .ok (.istore 7, 2) := by decide +kernel
theorem dX10_heaps_53 : decode cX10_heaps 53 = .ok (.aload_n 0, 1) := by decide +kernel
theorem dX10_heaps_54 : decode cX10_heaps 54 = .ok (.getfield 26, 3) := by decide +kernel
theorem dX10_heaps_57 : decode cX10_heaps 57 = .ok (.iload 5, 2) := by decide +kernel
theorem dX10_heaps_59 : decode cX10_heaps 59 = .ok (.aload_n 0, 1) := by decide +kernel
theorem dX10_heaps_60 : decode cX10_heaps 60 = .ok (.getfield 7, 3) := by decide +kernel
theorem dX10_heaps_63 : decode cX10_heaps 63 = .ok (.iload 5, 2) := by decide +kernel
theorem dX10_heaps_65 : decode cX10_heaps 65 = .ok (.iaload, 1) := by decide +kernel
theorem dX10_heaps_66 : decode cX10_heaps 66 = .ok (.iload 7, 2) := by decide +kernel
theorem dX10_heaps_68 : decode cX10_heaps 68 = .ok (.ifCond .gt 7, 3) := by decide +kernel
theorem dX10_heaps_71 : decode cX10_heaps 71 = .ok (.iconst 0, 1) := by decide +kernel
theorem dX10_heaps_72 : decode cX10_heaps 72 = .ok (.goto 15, 3) := by decide +kernel
theorem dX10_heaps_75 : decode cX10_heaps 75 = .ok (.iload_n 3, 1) := by decide +kernel
theorem dX10_heaps_76 : decode cX10_heaps 76 = .ok (.ifCond .ge 9, 3) := by decide +kernel
theorem dX10_heaps_79 : decode cX10_heaps 79 = .ok (.iload 7, 2) := by decide +kernel
theorem dX10_heaps_81 : decode cX10_heaps 81 = .ok (.ineg, 1) := by decide +kernel
theorem dX10_heaps_82 : decode cX10_heaps 82 = .ok (.goto 5, 3) := by decide +kernel
theorem dX10_heaps_85 : decode cX10_heaps 85 = .ok (.iload 7, 2) := by decide +kernel
theorem dX10_heaps_87 : decode cX10_heaps 87 = .ok (.iadd, 1) := by decide +kernel
theorem dX10_heaps_88 : decode cX10_heaps 88 = .ok (.iastore, 1) := by decide +kernel
theorem dX10_heaps_89 : decode cX10_heaps 89 = .ok (.iinc 5 1, 3) := by decide +kernel
theorem dX10_heaps_92 : decode cX10_heaps 92 = .ok (.goto (-83), 3) := by decide +kernel
theorem dX10_heaps_95 : decode cX10_heaps 95 = .ok (.aload_n 0, 1) := by decide +kernel
theorem dX10_heaps_96 : decode cX10_heaps 96 = .ok (.invokevirtual 66, 3) := by decide +kernel
theorem dX10_heaps_99 : decode cX10_heaps 99 = .ok (.ireturn, 1) := by decide +kernel
theorem dX10_smooths_0 : decode cX10_smooths 0 = .ok (.iconst 0, 1) := by decide +kernel
theorem dX10_smooths_1 : decode cX10_smooths 1 = .ok (.istore_n 1, 1) := by decide +kernel
theorem dX10_smooths_2 : decode cX10_smooths 2 = .ok (.iload_n 1, 1) := by decide +kernel
theorem dX10_smooths_3 : decode cX10_smooths 3 = .ok (.bipush 49, 2) := by decide +kernel
theorem dX10_smooths_5 : decode cX10_smooths 5 = .ok (.if_icmp .ge 84, 3) := by decide +kernel
theorem dX10_smooths_8 : decode cX10_smooths 8 = .ok (.aload_n 0, 1) := by decide +kernel
theorem dX10_smooths_9 : decode cX10_smooths 9 = .ok (.getfield 7, 3) := by decide +kernel
theorem dX10_smooths_12 : decode cX10_smooths 12 = .ok (.iload_n 1, 1) := by decide +kernel
theorem dX10_smooths_13 : decode cX10_smooths 13 = .ok (.iaload, 1) := by decide +kernel
theorem dX10_smooths_14 : decode cX10_smooths 14 = .ok (.istore_n 2, 1) := by decide +kernel
theorem dX10_smooths_15 : decode cX10_smooths 15 = .ok (.iconst 1, 1) := by decide +kernel
theorem dX10_smooths_16 : decode cX10_smooths 16 = .ok (.istore_n 3, 1) := by decide +kernel
theorem dX10_smooths_17 : decode cX10_smooths 17 = .ok (.iconst 0, 1) := by decide +kernel
theorem dX10_smooths_18 : decode cX10_smooths 18 = .ok (.istore 4, 2) := by decide +kernel
theorem dX10_smooths_20 : decode cX10_smooths 20 = .ok (.iload 4, 2) := by decide +kernel
theorem dX10_smooths_22 : decode cX10_smooths 22 = .ok (.iconst 4, 1) := by decide +kernel
theorem dX10_smooths_23 : decode cX10_smooths 23 = .ok (.if_icmp .ge 51, 3) := by decide +kernel
theorem dX10_smooths_26 : decode cX10_smooths 26 = .ok (.iload_n 1, 1) := by decide +kernel
theorem dX10_smooths_27 : decode cX10_smooths 27 = .ok (.iload 4, 2) := by decide +kernel
theorem dX10_smooths_29 : decode cX10_smooths 29 = .ok (.invokestatic 70, 3) := by decide +kernel
theorem dX10_smooths_32 : decode cX10_smooths 32 = .ok (.istore 5, 2) := by decide +kernel
theorem dX10_smooths_34 : decode cX10_smooths 34 = .ok (.iload_n 2, 1) := by decide +kernel
theorem dX10_smooths_35 : decode cX10_smooths 35 = .ok (.iload 5, 2) := by decide +kernel
theorem dX10_smooths_37 : decode cX10_smooths 37 = .ok (.iconst (-1), 1) := by decide +kernel
theorem dX10_smooths_38 : decode cX10_smooths 38 = .ok (.if_icmp .ne 7, 3) := by decide +kernel
theorem dX10_smooths_41 : decode cX10_smooths 41 = .ok (.iconst 0, 1) := by decide +kernel
theorem dX10_smooths_42 : decode cX10_smooths 42 = .ok (.goto 10, 3) := by decide +kernel
theorem dX10_smooths_45 : decode cX10_smooths 45 = .ok (.aload_n 0, 1) := by decide +kernel
theorem dX10_smooths_46 : decode cX10_smooths 46 = .ok (.getfield 7, 3) := by decide +kernel
theorem dX10_smooths_49 : decode cX10_smooths 49 = .ok (.iload 5, 2) := by decide +kernel
theorem dX10_smooths_51 : decode cX10_smooths 51 = .ok (.iaload, 1) := by decide +kernel
theorem dX10_smooths_52 : decode cX10_smooths 52 = .ok (.iadd, 1) := by decide +kernel
theorem dX10_smooths_53 : decode cX10_smooths 53 = .ok (.istore_n 2, 1) := by decide +kernel
theorem dX10_smooths_54 : decode cX10_smooths 54 = .ok (.iload_n 3, 1) := by decide +kernel
theorem dX10_smooths_55 : decode cX10_smooths 55 = .ok (.iload 5, 2) := by decide +kernel
theorem dX10_smooths_57 : decode cX10_smooths 57 = .ok (.iconst (-1), 1) := by decide +kernel
theorem dX10_smooths_58 : decode cX10_smooths 58 = .ok (.if_icmp .ne 7, 3) := by decide +kernel
theorem dX10_smooths_61 : decode cX10_smooths 61 = .ok (.iconst 0, 1) := by decide +kernel
theorem dX10_smooths_62 : decode cX10_smooths 62 = .ok (.goto 4, 3) := by decide +kernel
theorem dX10_smooths_65 : decode cX10_smooths 65 = .ok (.iconst 1, 1) := by decide +kernel
theorem dX10_smooths_66 : decode cX10_smooths 66 = .ok (.iadd, 1) := by decide +kernel
theorem dX10_smooths_67 : decode cX10_smooths 67 = .ok (.istore_n 3, 1) := by decide +kernel
theorem dX10_smooths_68 : decode cX10_smooths 68 = .ok (.iinc 4 1, 3) := by decide +kernel
theorem dX10_smooths_71 : decode cX10_smooths 71 = .ok (.goto (-51), 3) := by decide +kernel
theorem dX10_smooths_74 : decode cX10_smooths 74 = .ok (.aload_n 0, 1) := by decide +kernel
theorem dX10_smooths_75 : decode cX10_smooths 75 = .ok (.getfield 26, 3) := by decide +kernel
theorem dX10_smooths_78 : decode cX10_smooths 78 = .ok (.iload_n 1, 1) := by decide +kernel
theorem dX10_smooths_79 : decode cX10_smooths 79 = .ok (.iload_n 2, 1) := by decide +kernel
theorem dX10_smooths_80 : decode cX10_smooths 80 = .ok (.iload_n 3, 1) := by decide +kernel
theorem dX10_smooths_81 : decode cX10_smooths 81 = .ok (.idiv, 1) := by decide +kernel
theorem dX10_smooths_82 : decode cX10_smooths 82 = .ok (.iastore, 1) := by decide +kernel
theorem dX10_smooths_83 : decode cX10_smooths 83 = .ok (.iinc 1 1, 3) := by decide +kernel
theorem dX10_smooths_86 : decode cX10_smooths 86 = .ok (.goto (-84), 3) := by decide +kernel
theorem dX10_smooths_89 : decode cX10_smooths 89 = .ok (.aload_n 0, 1) := by decide +kernel
theorem dX10_smooths_90 : decode cX10_smooths 90 = .ok (.invokevirtual 66, 3) := by decide +kernel
theorem dX10_smooths_93 : decode cX10_smooths 93 = .ok (.ireturn, 1) := by decide +kernel
theorem dX10_drain_0 : decode cX10_drain 0 = .ok (.iconst (-1), 1) := by decide +kernel
theorem dX10_drain_1 : decode cX10_drain 1 = .ok (.istore_n 2, 1) := by decide +kernel
theorem dX10_drain_2 : decode cX10_drain 2 = .ok (.iconst 0, 1) := by decide +kernel
theorem dX10_drain_3 : decode cX10_drain 3 = .ok (.istore_n 3, 1) := by decide +kernel
theorem dX10_drain_4 : decode cX10_drain 4 = .ok (.iload_n 3, 1) := by decide +kernel
theorem dX10_drain_5 : decode cX10_drain 5 = .ok (.iconst 4, 1) := by decide +kernel
theorem dX10_drain_6 : decode cX10_drain 6 = .ok (.if_icmp .ge 78, 3) := by decide +kernel
theorem dX10_drain_9 : decode cX10_drain 9 = .ok (.iload_n 1, 1) := by decide +kernel
theorem dX10_drain_10 : decode cX10_drain 10 = .ok (.iload_n 3, 1) := by decide +kernel
theorem dX10_drain_11 : decode cX10_drain 11 = .ok (.invokestatic 70, 3) := by decide +kernel
theorem dX10_drain_14 : decode cX10_drain 14 = .ok (.istore 4, 2) := by decide +kernel
theorem dX10_drain_16 : decode cX10_drain 16 = .ok (.iload 4, 2) := by decide +kernel
theorem dX10_drain_18 : decode cX10_drain 18 = .ok (.iconst (-1), 1) := by decide +kernel
theorem dX10_drain_19 : decode cX10_drain 19 = .ok (.if_icmp .eq 44, 3) := by decide +kernel
theorem dX10_drain_22 : decode cX10_drain 22 = .ok (.aload_n 0, 1) := by decide +kernel
theorem dX10_drain_23 : decode cX10_drain 23 = .ok (.getfield 7, 3) := by decide +kernel
theorem dX10_drain_26 : decode cX10_drain 26 = .ok (.iload 4, 2) := by decide +kernel
theorem dX10_drain_28 : decode cX10_drain 28 = .ok (.iaload, 1) := by decide +kernel
theorem dX10_drain_29 : decode cX10_drain 29 = .ok (.aload_n 0, 1) := by decide +kernel
theorem dX10_drain_30 : decode cX10_drain 30 = .ok (.getfield 7, 3) := by decide +kernel
theorem dX10_drain_33 : decode cX10_drain 33 = .ok (.iload_n 1, 1) := by decide +kernel
theorem dX10_drain_34 : decode cX10_drain 34 = .ok (.iaload, 1) := by decide +kernel
theorem dX10_drain_35 : decode cX10_drain 35 = .ok (.if_icmp .ge 28, 3) := by decide +kernel
theorem dX10_drain_38 : decode cX10_drain 38 = .ok (.iload_n 2, 1) := by decide +kernel
theorem dX10_drain_39 : decode cX10_drain 39 = .ok (.iconst (-1), 1) := by decide +kernel
theorem dX10_drain_40 : decode cX10_drain 40 = .ok (.if_icmp .eq 19, 3) := by decide +kernel
theorem dX10_drain_43 : decode cX10_drain 43 = .ok (.aload_n 0, 1) := by decide +kernel
theorem dX10_drain_44 : decode cX10_drain 44 = .ok (.getfield 7, 3) := by decide +kernel
theorem dX10_drain_47 : decode cX10_drain 47 = .ok (.iload 4, 2) := by decide +kernel
theorem dX10_drain_49 : decode cX10_drain 49 = .ok (.iaload, 1) := by decide +kernel
theorem dX10_drain_50 : decode cX10_drain 50 = .ok (.aload_n 0, 1) := by decide +kernel
theorem dX10_drain_51 : decode cX10_drain 51 = .ok (.getfield 7, 3) := by decide +kernel
theorem dX10_drain_54 : decode cX10_drain 54 = .ok (.iload_n 2, 1) := by decide +kernel
theorem dX10_drain_55 : decode cX10_drain 55 = .ok (.iaload, 1) := by decide +kernel
theorem dX10_drain_56 : decode cX10_drain 56 = .ok (.if_icmp .ge 7, 3) := by decide +kernel
theorem dX10_drain_59 : decode cX10_drain 59 = .ok (.iconst 1, 1) := by decide +kernel
theorem dX10_drain_60 : decode cX10_drain 60 = .ok (.goto 4, 3) := by decide +kernel
theorem dX10_drain_63 : decode cX10_drain 63 = .ok (.iconst 0, 1) := by decide +kernel
theorem dX10_drain_64 : decode cX10_drain 64 = .ok (.istore 5, 2) := by decide +kernel
theorem dX10_drain_66 : decode cX10_drain 66 = .ok (.iload 5, 2) := by decide +kernel
theorem dX10_drain_68 : decode cX10_drain 68 = .ok (.ifCond .eq 8, 3) := by decide +kernel
theorem dX10_drain_71 : decode cX10_drain 71 = .ok (.iload 4, 2) := by decide +kernel
theorem dX10_drain_73 : decode cX10_drain 73 = .ok (.goto 4, 3) := by decide +kernel
theorem dX10_drain_76 : decode cX10_drain 76 = .ok (.iload_n 2, 1) := by decide +kernel
theorem dX10_drain_77 : decode cX10_drain 77 = .ok (.istore_n 2, 1) := by decide +kernel
theorem dX10_drain_78 : decode cX10_drain 78 = .ok (.iinc 3 1, 3) := by decide +kernel
theorem dX10_drain_81 : decode cX10_drain 81 = .ok (.goto (-77), 3) := by decide +kernel
theorem dX10_drain_84 : decode cX10_drain 84 = .ok (.iload_n 2, 1) := by decide +kernel
theorem dX10_drain_85 : decode cX10_drain 85 = .ok (.ireturn, 1) := by decide +kernel
theorem dX10_drop_0 : decode cX10_drop 0 = .ok (.aload_n 0, 1) := by decide +kernel
theorem dX10_drop_1 : decode cX10_drop 1 = .ok (.iload_n 1, 1) := by decide +kernel
theorem dX10_drop_2 : decode cX10_drop 2 = .ok (.invokevirtual 74, 3) := by decide +kernel
theorem dX10_drop_5 : decode cX10_drop 5 = .ok (.istore_n 2, 1) := by decide +kernel
theorem dX10_drop_6 : decode cX10_drop 6 = .ok (.iload_n 2, 1) := by decide +kernel
theorem dX10_drop_7 : decode cX10_drop 7 = .ok (.iconst (-1), 1) := by decide +kernel
theorem dX10_drop_8 : decode cX10_drop 8 = .ok (.if_icmp .ne 7, 3) := by decide +kernel
theorem dX10_drop_11 : decode cX10_drop 11 = .ok (.iconst 0, 1) := by decide +kernel
theorem dX10_drop_12 : decode cX10_drop 12 = .ok (.goto 16, 3) := by decide +kernel
theorem dX10_drop_15 : decode cX10_drop 15 = .ok (.aload_n 0, 1) := by decide +kernel
theorem dX10_drop_16 : decode cX10_drop 16 = .ok (.getfield 7, 3) := by decide +kernel
theorem dX10_drop_19 : decode cX10_drop 19 = .ok (.iload_n 1, 1) := by decide +kernel
theorem dX10_drop_20 : decode cX10_drop 20 = .ok (.iaload, 1) := by decide +kernel
theorem dX10_drop_21 : decode cX10_drop 21 = .ok (.aload_n 0, 1) := by decide +kernel
theorem dX10_drop_22 : decode cX10_drop 22 = .ok (.getfield 7, 3) := by decide +kernel
theorem dX10_drop_25 : decode cX10_drop 25 = .ok (.iload_n 2, 1) := by decide +kernel
theorem dX10_drop_26 : decode cX10_drop 26 = .ok (.iaload, 1) := by decide +kernel
theorem dX10_drop_27 : decode cX10_drop 27 = .ok (.isub, 1) := by decide +kernel
theorem dX10_drop_28 : decode cX10_drop 28 = .ok (.ireturn, 1) := by decide +kernel
theorem dX10_showers_0 : decode cX10_showers 0 = .ok (.iconst 0, 1) := by decide +kernel
theorem dX10_showers_1 : decode cX10_showers 1 = .ok (.istore_n 1, 1) := by decide +kernel
theorem dX10_showers_2 : decode cX10_showers 2 = .ok (.iconst 0, 1) := by decide +kernel
theorem dX10_showers_3 : decode cX10_showers 3 = .ok (.istore_n 2, 1) := by decide +kernel
theorem dX10_showers_4 : decode cX10_showers 4 = .ok (.iload_n 2, 1) := by decide +kernel
theorem dX10_showers_5 : decode cX10_showers 5 = .ok (.bipush 49, 2) := by decide +kernel
theorem dX10_showers_7 : decode cX10_showers 7 = .ok (.if_icmp .ge 21, 3) := by decide +kernel
theorem dX10_showers_10 : decode cX10_showers 10 = .ok (.aload_n 0, 1) := by decide +kernel
theorem dX10_showers_11 : decode cX10_showers 11 = .ok (.getfield 26, 3) := by decide +kernel
theorem dX10_showers_14 : decode cX10_showers 14 = .ok (.iload_n 2, 1) := by decide +kernel
theorem dX10_showers_15 : decode cX10_showers 15 = .ok (.aload_n 0, 1) := by decide +kernel
theorem dX10_showers_16 : decode cX10_showers 16 = .ok (.getfield 7, 3) := by decide +kernel
theorem dX10_showers_19 : decode cX10_showers 19 = .ok (.iload_n 2, 1) := by decide +kernel
theorem dX10_showers_20 : decode cX10_showers 20 = .ok (.iaload, 1) := by decide +kernel
theorem dX10_showers_21 : decode cX10_showers 21 = .ok (.iastore, 1) := by decide +kernel
theorem dX10_showers_22 : decode cX10_showers 22 = .ok (.iinc 2 1, 3) := by decide +kernel
theorem dX10_showers_25 : decode cX10_showers 25 = .ok (.goto (-21), 3) := by decide +kernel
theorem dX10_showers_28 : decode cX10_showers 28 = .ok (.iconst 0, 1) := by decide +kernel
theorem dX10_showers_29 : decode cX10_showers 29 = .ok (.istore_n 2, 1) := by decide +kernel
theorem dX10_showers_30 : decode cX10_showers 30 = .ok (.iload_n 2, 1) := by decide +kernel
theorem dX10_showers_31 : decode cX10_showers 31 = .ok (.bipush 49, 2) := by decide +kernel
theorem dX10_showers_33 : decode cX10_showers 33 = .ok (.if_icmp .ge 45, 3) := by decide +kernel
theorem dX10_showers_36 : decode cX10_showers 36 = .ok (.aload_n 0, 1) := by decide +kernel
theorem dX10_showers_37 : decode cX10_showers 37 = .ok (.iload_n 2, 1) := by decide +kernel
theorem dX10_showers_38 : decode cX10_showers 38 = .ok (.invokevirtual 77, 3) := by decide +kernel
theorem dX10_showers_41 : decode cX10_showers 41 = .ok (.iconst 1, 1) := by decide +kernel
theorem dX10_showers_42 : decode cX10_showers 42 = .ok (.if_icmp .le 30, 3) := by decide +kernel
theorem dX10_showers_45 : decode cX10_showers 45 = .ok (.aload_n 0, 1) := by decide +kernel
theorem dX10_showers_46 : decode cX10_showers 46 = .ok (.getfield 26, 3) := by decide +kernel
theorem dX10_showers_49 : decode cX10_showers 49 = .ok (.iload_n 2, 1) := by decide +kernel
theorem dX10_showers_50 : decode cX10_showers 50 = .ok (.dup2, 1) := by decide +kernel
theorem dX10_showers_51 : decode cX10_showers 51 = .ok (.iaload, 1) := by decide +kernel
theorem dX10_showers_52 : decode cX10_showers 52 = .ok (.iconst 1, 1) := by decide +kernel
theorem dX10_showers_53 : decode cX10_showers 53 = .ok (.isub, 1) := by decide +kernel
theorem dX10_showers_54 : decode cX10_showers 54 = .ok (.iastore, 1) := by decide +kernel
theorem dX10_showers_55 : decode cX10_showers 55 = .ok (.aload_n 0, 1) := by decide +kernel
theorem dX10_showers_56 : decode cX10_showers 56 = .ok (.getfield 26, 3) := by decide +kernel
theorem dX10_showers_59 : decode cX10_showers 59 = .ok (.aload_n 0, 1) := by decide +kernel
theorem dX10_showers_60 : decode cX10_showers 60 = .ok (.iload_n 2, 1) := by decide +kernel
theorem dX10_showers_61 : decode cX10_showers 61 = .ok (.invokevirtual 74, 3) := by decide +kernel
theorem dX10_showers_64 : decode cX10_showers 64 = .ok (.dup2, 1) := by decide +kernel
theorem dX10_showers_65 : decode cX10_showers 65 = .ok (.iaload, 1) := by decide +kernel
theorem dX10_showers_66 : decode cX10_showers 66 = .ok (.iconst 1, 1) := by decide +kernel
theorem dX10_showers_67 : decode cX10_showers 67 = .ok (.iadd, 1) := by decide +kernel
theorem dX10_showers_68 : decode cX10_showers 68 = .ok (.iastore, 1) := by decide +kernel
theorem dX10_showers_69 : decode cX10_showers 69 = .ok (.iinc 1 1, 3) := by decide +kernel
theorem dX10_showers_72 : decode cX10_showers 72 = .ok (.iinc 2 1, 3) := by decide +kernel
theorem dX10_showers_75 : decode cX10_showers 75 = .ok (.goto (-45), 3) := by decide +kernel
theorem dX10_showers_78 : decode cX10_showers 78 = .ok (.aload_n 0, 1) := by decide +kernel
theorem dX10_showers_79 : decode cX10_showers 79 = .ok (.invokevirtual 66, 3) := by decide +kernel
theorem dX10_showers_82 : decode cX10_showers 82 = .ok (.istore_n 2, 1) := by decide +kernel
theorem dX10_showers_83 : decode cX10_showers 83 = .ok (.iload_n 1, 1) := by decide +kernel
theorem dX10_showers_84 : decode cX10_showers 84 = .ok (.ireturn, 1) := by decide +kernel
theorem dX10_set_0 : decode cX10_set 0 = .ok (.aload_n 0, 1) := by decide +kernel
theorem dX10_set_1 : decode cX10_set 1 = .ok (.iload_n 1, 1) := by decide +kernel
theorem dX10_set_2 : decode cX10_set 2 = .ok (.iload_n 2, 1) := by decide +kernel
theorem dX10_set_3 : decode cX10_set 3 = .ok (.invokestatic 55, 3) := by decide +kernel
theorem dX10_set_6 : decode cX10_set 6 = .ok (.ifCond .ne 7, 3) := by decide +kernel
theorem dX10_set_9 : decode cX10_set 9 = .ok (.iconst 1, 1) := by decide +kernel
theorem dX10_set_10 : decode cX10_set 10 = .ok (.goto 18, 3) := by decide +kernel
theorem dX10_set_13 : decode cX10_set 13 = .ok (.iload_n 3, 1) := by decide +kernel
theorem dX10_set_14 : decode cX10_set 14 = .ok (.iconst 0, 1) := by decide +kernel
theorem dX10_set_15 : decode cX10_set 15 = .ok (.bipush 99, 2) := by decide +kernel
theorem dX10_set_17 : decode cX10_set 17 = .ok (.invokestatic 48, 3) := by decide +kernel
theorem dX10_set_20 : decode cX10_set 20 = .ok (.ifCond .eq 7, 3) := by decide +kernel
theorem dX10_set_23 : decode cX10_set 23 = .ok (.iconst 0, 1) := by decide +kernel
theorem dX10_set_24 : decode cX10_set 24 = .ok (.goto 4, 3) := by decide +kernel
theorem dX10_set_27 : decode cX10_set 27 = .ok (.iconst 2, 1) := by decide +kernel
theorem dX10_set_28 : decode cX10_set 28 = .ok (.putfield 44, 3) := by decide +kernel
theorem dX10_set_31 : decode cX10_set 31 = .ok (.aload_n 0, 1) := by decide +kernel
theorem dX10_set_32 : decode cX10_set 32 = .ok (.getfield 44, 3) := by decide +kernel
theorem dX10_set_35 : decode cX10_set 35 = .ok (.ifCond .le 5, 3) := by decide +kernel
theorem dX10_set_38 : decode cX10_set 38 = .ok (.iconst 0, 1) := by decide +kernel
theorem dX10_set_39 : decode cX10_set 39 = .ok (.ireturn, 1) := by decide +kernel
theorem dX10_set_40 : decode cX10_set 40 = .ok (.aload_n 0, 1) := by decide +kernel
theorem dX10_set_41 : decode cX10_set 41 = .ok (.invokevirtual 80, 3) := by decide +kernel
theorem dX10_set_44 : decode cX10_set 44 = .ok (.aload_n 0, 1) := by decide +kernel
theorem dX10_set_45 : decode cX10_set 45 = .ok (.getfield 7, 3) := by decide +kernel
theorem dX10_set_48 : decode cX10_set 48 = .ok (.bipush 7, 2) := by decide +kernel
theorem dX10_set_50 : decode cX10_set 50 = .ok (.iload_n 1, 1) := by decide +kernel
theorem dX10_set_51 : decode cX10_set 51 = .ok (.imul, 1) := by decide +kernel
theorem dX10_set_52 : decode cX10_set 52 = .ok (.iload_n 2, 1) := by decide +kernel
theorem dX10_set_53 : decode cX10_set 53 = .ok (.iadd, 1) := by decide +kernel
theorem dX10_set_54 : decode cX10_set 54 = .ok (.iaload, 1) := by decide +kernel
theorem dX10_set_55 : decode cX10_set 55 = .ok (.istore 4, 2) := by decide +kernel
theorem dX10_set_57 : decode cX10_set 57 = .ok (.aload_n 0, 1) := by decide +kernel
theorem dX10_set_58 : decode cX10_set 58 = .ok (.getfield 7, 3) := by decide +kernel
theorem dX10_set_61 : decode cX10_set 61 = .ok (.bipush 7, 2) := by decide +kernel
theorem dX10_set_63 : decode cX10_set 63 = .ok (.iload_n 1, 1) := by decide +kernel
theorem dX10_set_64 : decode cX10_set 64 = .ok (.imul, 1) := by decide +kernel
theorem dX10_set_65 : decode cX10_set 65 = .ok (.iload_n 2, 1) := by decide +kernel
theorem dX10_set_66 : decode cX10_set 66 = .ok (.iadd, 1) := by decide +kernel
theorem dX10_set_67 : decode cX10_set 67 = .ok (.iload_n 3, 1) := by decide +kernel
theorem dX10_set_68 : decode cX10_set 68 = .ok (.iastore, 1) := by decide +kernel
theorem dX10_set_69 : decode cX10_set 69 = .ok (.iload 4, 2) := by decide +kernel
theorem dX10_set_71 : decode cX10_set 71 = .ok (.ireturn, 1) := by decide +kernel
theorem dX10_heap_0 : decode cX10_heap 0 = .ok (.aload_n 0, 1) := by decide +kernel
theorem dX10_heap_1 : decode cX10_heap 1 = .ok (.iload_n 1, 1) := by decide +kernel
theorem dX10_heap_2 : decode cX10_heap 2 = .ok (.iload_n 2, 1) := by decide +kernel
theorem dX10_heap_3 : decode cX10_heap 3 = .ok (.invokestatic 55, 3) := by decide +kernel
theorem dX10_heap_6 : decode cX10_heap 6 = .ok (.ifCond .ne 7, 3) := by decide +kernel
theorem dX10_heap_9 : decode cX10_heap 9 = .ok (.iconst 1, 1) := by decide +kernel
theorem dX10_heap_10 : decode cX10_heap 10 = .ok (.goto 23, 3) := by decide +kernel
theorem dX10_heap_13 : decode cX10_heap 13 = .ok (.iload_n 3, 1) := by decide +kernel
theorem dX10_heap_14 : decode cX10_heap 14 = .ok (.bipush (-60), 2) := by decide +kernel
theorem dX10_heap_16 : decode cX10_heap 16 = .ok (.bipush 60, 2) := by decide +kernel
theorem dX10_heap_18 : decode cX10_heap 18 = .ok (.invokestatic 48, 3) := by decide +kernel
theorem dX10_heap_21 : decode cX10_heap 21 = .ok (.ifCond .eq 11, 3) := by decide +kernel
theorem dX10_heap_24 : decode cX10_heap 24 = .ok (.iload_n 3, 1) := by decide +kernel
theorem dX10_heap_25 : decode cX10_heap 25 = .ok (.ifCond .eq 7, 3) := by decide +kernel
theorem dX10_heap_28 : decode cX10_heap 28 = .ok (.iconst 0, 1) := by decide +kernel
theorem dX10_heap_29 : decode cX10_heap 29 = .ok (.goto 4, 3) := by decide +kernel
theorem dX10_heap_32 : decode cX10_heap 32 = .ok (.iconst 2, 1) := by decide +kernel
theorem dX10_heap_33 : decode cX10_heap 33 = .ok (.putfield 44, 3) := by decide +kernel
theorem dX10_heap_36 : decode cX10_heap 36 = .ok (.aload_n 0, 1) := by decide +kernel
theorem dX10_heap_37 : decode cX10_heap 37 = .ok (.getfield 44, 3) := by decide +kernel
theorem dX10_heap_40 : decode cX10_heap 40 = .ok (.ifCond .le 5, 3) := by decide +kernel
theorem dX10_heap_43 : decode cX10_heap 43 = .ok (.iconst 0, 1) := by decide +kernel
theorem dX10_heap_44 : decode cX10_heap 44 = .ok (.ireturn, 1) := by decide +kernel
theorem dX10_heap_45 : decode cX10_heap 45 = .ok (.aload_n 0, 1) := by decide +kernel
theorem dX10_heap_46 : decode cX10_heap 46 = .ok (.invokevirtual 80, 3) := by decide +kernel
theorem dX10_heap_49 : decode cX10_heap 49 = .ok (.aload_n 0, 1) := by decide +kernel
theorem dX10_heap_50 : decode cX10_heap 50 = .ok (.iload_n 1, 1) := by decide +kernel
theorem dX10_heap_51 : decode cX10_heap 51 = .ok (.iload_n 2, 1) := by decide +kernel
theorem dX10_heap_52 : decode cX10_heap 52 = .ok (.iload_n 3, 1) := by decide +kernel
theorem dX10_heap_53 : decode cX10_heap 53 = .ok (.invokevirtual 83, 3) := by decide +kernel
theorem dX10_heap_56 : decode cX10_heap 56 = .ok (.ireturn, 1) := by decide +kernel
theorem dX10_smooth_0 : decode cX10_smooth 0 = .ok (.aload_n 0, 1) := by decide +kernel
theorem dX10_smooth_1 : decode cX10_smooth 1 = .ok (.iconst 0, 1) := by decide +kernel
theorem dX10_smooth_2 : decode cX10_smooth 2 = .ok (.putfield 44, 3) := by decide +kernel
theorem dX10_smooth_5 : decode cX10_smooth 5 = .ok (.aload_n 0, 1) := by decide +kernel
theorem dX10_smooth_6 : decode cX10_smooth 6 = .ok (.invokevirtual 80, 3) := by decide +kernel
theorem dX10_smooth_9 : decode cX10_smooth 9 = .ok (.aload_n 0, 1) := by decide +kernel
theorem dX10_smooth_10 : decode cX10_smooth 10 = .ok (.invokevirtual 87, 3) := by decide +kernel
theorem dX10_smooth_13 : decode cX10_smooth 13 = .ok (.ireturn, 1) := by decide +kernel
theorem dX10_wash_0 : decode cX10_wash 0 = .ok (.aload_n 0, 1) := by decide +kernel
theorem dX10_wash_1 : decode cX10_wash 1 = .ok (.iconst 0, 1) := by decide +kernel
theorem dX10_wash_2 : decode cX10_wash 2 = .ok (.putfield 44, 3) := by decide +kernel
theorem dX10_wash_5 : decode cX10_wash 5 = .ok (.iload_n 1, 1) := by decide +kernel
theorem dX10_wash_6 : decode cX10_wash 6 = .ok (.iconst 1, 1) := by decide +kernel
theorem dX10_wash_7 : decode cX10_wash 7 = .ok (.bipush 50, 2) := by decide +kernel
theorem dX10_wash_9 : decode cX10_wash 9 = .ok (.invokestatic 48, 3) := by decide +kernel
theorem dX10_wash_12 : decode cX10_wash 12 = .ok (.ifCond .ne 9, 3) := by decide +kernel
theorem dX10_wash_15 : decode cX10_wash 15 = .ok (.aload_n 0, 1) := by decide +kernel
theorem dX10_wash_16 : decode cX10_wash 16 = .ok (.iconst 1, 1) := by decide +kernel
theorem dX10_wash_17 : decode cX10_wash 17 = .ok (.invokevirtual 90, 3) := by decide +kernel
theorem dX10_wash_20 : decode cX10_wash 20 = .ok (.ireturn, 1) := by decide +kernel
theorem dX10_wash_21 : decode cX10_wash 21 = .ok (.aload_n 0, 1) := by decide +kernel
theorem dX10_wash_22 : decode cX10_wash 22 = .ok (.invokevirtual 80, 3) := by decide +kernel
theorem dX10_wash_25 : decode cX10_wash 25 = .ok (.iconst 0, 1) := by decide +kernel
theorem dX10_wash_26 : decode cX10_wash 26 = .ok (.istore_n 2, 1) := by decide +kernel
theorem dX10_wash_27 : decode cX10_wash 27 = .ok (.iconst 0, 1) := by decide +kernel
theorem dX10_wash_28 : decode cX10_wash 28 = .ok (.istore_n 3, 1) := by decide +kernel
theorem dX10_wash_29 : decode cX10_wash 29 = .ok (.iload_n 3, 1) := by decide +kernel
theorem dX10_wash_30 : decode cX10_wash 30 = .ok (.iload_n 1, 1) := by decide +kernel
theorem dX10_wash_31 : decode cX10_wash 31 = .ok (.if_icmp .ge 16, 3) := by decide +kernel
theorem dX10_wash_34 : decode cX10_wash 34 = .ok (.iload_n 2, 1) := by decide +kernel
theorem dX10_wash_35 : decode cX10_wash 35 = .ok (.aload_n 0, 1) := by decide +kernel
theorem dX10_wash_36 : decode cX10_wash 36 = .ok (.invokevirtual 93, 3) := by decide +kernel
theorem dX10_wash_39 : decode cX10_wash 39 = .ok (.iadd, 1) := by decide +kernel
theorem dX10_wash_40 : decode cX10_wash 40 = .ok (.istore_n 2, 1) := by decide +kernel
theorem dX10_wash_41 : decode cX10_wash 41 = .ok (.iinc 3 1, 3) := by decide +kernel
theorem dX10_wash_44 : decode cX10_wash 44 = .ok (.goto (-15), 3) := by decide +kernel
theorem dX10_wash_47 : decode cX10_wash 47 = .ok (.iload_n 2, 1) := by decide +kernel
theorem dX10_wash_48 : decode cX10_wash 48 = .ok (.ireturn, 1) := by decide +kernel
theorem dX10_turnMap_0 : decode cX10_turnMap 0 = .ok (.aload_n 0, 1) := by decide +kernel
theorem dX10_turnMap_1 : decode cX10_turnMap 1 = .ok (.iconst 0, 1) := by decide +kernel
theorem dX10_turnMap_2 : decode cX10_turnMap 2 = .ok (.putfield 44, 3) := by decide +kernel
theorem dX10_turnMap_5 : decode cX10_turnMap 5 = .ok (.aload_n 0, 1) := by decide +kernel
theorem dX10_turnMap_6 : decode cX10_turnMap 6 = .ok (.invokevirtual 80, 3) := by decide +kernel
theorem dX10_turnMap_9 : decode cX10_turnMap 9 = .ok (.iconst 0, 1) := by decide +kernel
theorem dX10_turnMap_10 : decode cX10_turnMap 10 = .ok (.istore_n 1, 1) := by decide +kernel
theorem dX10_turnMap_11 : decode cX10_turnMap 11 = .ok (.iload_n 1, 1) := by decide +kernel
theorem dX10_turnMap_12 : decode cX10_turnMap 12 = .ok (.bipush 49, 2) := by decide +kernel
theorem dX10_turnMap_14 : decode cX10_turnMap 14 = .ok (.if_icmp .ge 35, 3) := by decide +kernel
theorem dX10_turnMap_17 : decode cX10_turnMap 17 = .ok (.aload_n 0, 1) := by decide +kernel
theorem dX10_turnMap_18 : decode cX10_turnMap 18 = .ok (.getfield 26, 3) := by decide +kernel
theorem dX10_turnMap_21 : decode cX10_turnMap 21 = .ok (.iload_n 1, 1) := by decide +kernel
theorem dX10_turnMap_22 : decode cX10_turnMap 22 = .ok (.aload_n 0, 1) := by decide +kernel
theorem dX10_turnMap_23 : decode cX10_turnMap 23 = .ok (.getfield 7, 3) := by decide +kernel
theorem dX10_turnMap_26 : decode cX10_turnMap 26 = .ok (.bipush 7, 2) := by decide +kernel
theorem dX10_turnMap_28 : decode cX10_turnMap 28 = .ok (.bipush 6, 2) := by decide +kernel
theorem dX10_turnMap_30 : decode cX10_turnMap 30 = .ok (.iload_n 1, 1) := by decide +kernel
theorem dX10_turnMap_31 : decode cX10_turnMap 31 = .ok (.bipush 7, 2) := by decide +kernel
theorem dX10_turnMap_33 : decode cX10_turnMap 33 = .ok (.irem, 1) := by decide +kernel
theorem dX10_turnMap_34 : decode cX10_turnMap 34 = .ok (.isub, 1) := by decide +kernel
theorem dX10_turnMap_35 : decode cX10_turnMap 35 = .ok (.imul, 1) := by decide +kernel
theorem dX10_turnMap_36 : decode cX10_turnMap 36 = .ok (.iload_n 1, 1) := by decide +kernel
theorem dX10_turnMap_37 : decode cX10_turnMap 37 = .ok (.bipush 7, 2) := by decide +kernel
theorem dX10_turnMap_39 : decode cX10_turnMap 39 = .ok (.idiv, 1) := by decide +kernel
theorem dX10_turnMap_40 : decode cX10_turnMap 40 = .ok (.iadd, 1) := by decide +kernel
theorem dX10_turnMap_41 : decode cX10_turnMap 41 = .ok (.iaload, 1) := by decide +kernel
theorem dX10_turnMap_42 : decode cX10_turnMap 42 = .ok (.iastore, 1) := by decide +kernel
theorem dX10_turnMap_43 : decode cX10_turnMap 43 = .ok (.iinc 1 1, 3) := by decide +kernel
theorem dX10_turnMap_46 : decode cX10_turnMap 46 = .ok (.goto (-35), 3) := by decide +kernel
theorem dX10_turnMap_49 : decode cX10_turnMap 49 = .ok (.aload_n 0, 1) := by decide +kernel
theorem dX10_turnMap_50 : decode cX10_turnMap 50 = .ok (.invokevirtual 66, 3) := by decide +kernel
theorem dX10_turnMap_53 : decode cX10_turnMap 53 = .ok (.ireturn, 1) := by decide +kernel
theorem dX10_append_0 : decode cX10_append 0 = .ok (.aload_n 0, 1) := by decide +kernel
theorem dX10_append_1 : decode cX10_append 1 = .ok (.iconst 0, 1) := by decide +kernel
theorem dX10_append_2 : decode cX10_append 2 = .ok (.putfield 44, 3) := by decide +kernel
theorem dX10_append_5 : decode cX10_append 5 = .ok (.iload_n 1, 1) := by decide +kernel
theorem dX10_append_6 : decode cX10_append 6 = .ok (.bipush 33, 2) := by decide +kernel
theorem dX10_append_8 : decode cX10_append 8 = .ok (.bipush 126, 2) := by decide +kernel
theorem dX10_append_10 : decode cX10_append 10 = .ok (.invokestatic 48, 3) := by decide +kernel
theorem dX10_append_13 : decode cX10_append 13 = .ok (.ifCond .ne 9, 3) := by decide +kernel
theorem dX10_append_16 : decode cX10_append 16 = .ok (.aload_n 0, 1) := by decide +kernel
theorem dX10_append_17 : decode cX10_append 17 = .ok (.iconst 1, 1) := by decide +kernel
theorem dX10_append_18 : decode cX10_append 18 = .ok (.invokevirtual 90, 3) := by decide +kernel
theorem dX10_append_21 : decode cX10_append 21 = .ok (.ireturn, 1) := by decide +kernel
theorem dX10_append_22 : decode cX10_append 22 = .ok (.aload_n 0, 1) := by decide +kernel
theorem dX10_append_23 : decode cX10_append 23 = .ok (.getfield 96, 3) := by decide +kernel
theorem dX10_append_26 : decode cX10_append 26 = .ok (.bipush 60, 2) := by decide +kernel
theorem dX10_append_28 : decode cX10_append 28 = .ok (.if_icmp .ne 9, 3) := by decide +kernel
theorem dX10_append_31 : decode cX10_append 31 = .ok (.aload_n 0, 1) := by decide +kernel
theorem dX10_append_32 : decode cX10_append 32 = .ok (.iconst 2, 1) := by decide +kernel
theorem dX10_append_33 : decode cX10_append 33 = .ok (.invokevirtual 90, 3) := by decide +kernel
theorem dX10_append_36 : decode cX10_append 36 = .ok (.ireturn, 1) := by decide +kernel
theorem dX10_append_37 : decode cX10_append 37 = .ok (.aload_n 0, 1) := by decide +kernel
theorem dX10_append_38 : decode cX10_append 38 = .ok (.getfield 23, 3) := by decide +kernel
theorem dX10_append_41 : decode cX10_append 41 = .ok (.aload_n 0, 1) := by decide +kernel
theorem dX10_append_42 : decode cX10_append 42 = .ok (.getfield 96, 3) := by decide +kernel
theorem dX10_append_45 : decode cX10_append 45 = .ok (.iload_n 1, 1) := by decide +kernel
theorem dX10_append_46 : decode cX10_append 46 = .ok (.iastore, 1) := by decide +kernel
theorem dX10_append_47 : decode cX10_append 47 = .ok (.aload_n 0, 1) := by decide +kernel
theorem dX10_append_48 : decode cX10_append 48 = .ok (.dup, 1) := by decide +kernel
theorem dX10_append_49 : decode cX10_append 49 = .ok (.getfield 96, 3) := by decide +kernel
theorem dX10_append_52 : decode cX10_append 52 = .ok (.iconst 1, 1) := by decide +kernel
theorem dX10_append_53 : decode cX10_append 53 = .ok (.iadd, 1) := by decide +kernel
theorem dX10_append_54 : decode cX10_append 54 = .ok (.putfield 96, 3) := by decide +kernel
theorem dX10_append_57 : decode cX10_append 57 = .ok (.aload_n 0, 1) := by decide +kernel
theorem dX10_append_58 : decode cX10_append 58 = .ok (.getfield 96, 3) := by decide +kernel
theorem dX10_append_61 : decode cX10_append 61 = .ok (.ireturn, 1) := by decide +kernel
theorem dX10_clearBuffer_0 : decode cX10_clearBuffer 0 = .ok (.aload_n 0, 1) := by decide +kernel
theorem dX10_clearBuffer_1 : decode cX10_clearBuffer 1 = .ok (.iconst 0, 1) := by decide +kernel
theorem dX10_clearBuffer_2 : decode cX10_clearBuffer 2 = .ok (.putfield 44, 3) := by decide +kernel
theorem dX10_clearBuffer_5 : decode cX10_clearBuffer 5 = .ok (.aload_n 0, 1) := by decide +kernel
theorem dX10_clearBuffer_6 : decode cX10_clearBuffer 6 = .ok (.getfield 96, 3) := by decide +kernel
theorem dX10_clearBuffer_9 : decode cX10_clearBuffer 9 = .ok (.istore_n 1, 1) := by decide +kernel
theorem dX10_clearBuffer_10 : decode cX10_clearBuffer 10 = .ok (.aload_n 0, 1) := by decide +kernel
theorem dX10_clearBuffer_11 : decode cX10_clearBuffer 11 = .ok (.iconst 0, 1) := by decide +kernel
theorem dX10_clearBuffer_12 : decode cX10_clearBuffer 12 = .ok (.putfield 96, 3) := by decide +kernel
theorem dX10_clearBuffer_15 : decode cX10_clearBuffer 15 = .ok (.iload_n 1, 1) := by decide +kernel
theorem dX10_clearBuffer_16 : decode cX10_clearBuffer 16 = .ok (.ireturn, 1) := by decide +kernel
theorem dX10_sign_0 : decode cX10_sign 0 = .ok (.aload_n 0, 1) := by decide +kernel
theorem dX10_sign_1 : decode cX10_sign 1 = .ok (.getfield 99, 3) := by decide +kernel
theorem dX10_sign_4 : decode cX10_sign 4 = .ok (.aload_n 0, 1) := by decide +kernel
theorem dX10_sign_5 : decode cX10_sign 5 = .ok (.getfield 96, 3) := by decide +kernel
theorem dX10_sign_8 : decode cX10_sign 8 = .ok (.if_icmp .ge 22, 3) := by decide +kernel
theorem dX10_sign_11 : decode cX10_sign 11 = .ok (.aload_n 0, 1) := by decide +kernel
theorem dX10_sign_12 : decode cX10_sign 12 = .ok (.getfield 102, 3) := by decide +kernel
theorem dX10_sign_15 : decode cX10_sign 15 = .ok (.ifCond .ne 15, 3) := by decide +kernel
theorem dX10_sign_18 : decode cX10_sign 18 = .ok (.aload_n 0, 1) := by decide +kernel
theorem dX10_sign_19 : decode cX10_sign 19 = .ok (.getfield 23, 3) := by decide +kernel
theorem dX10_sign_22 : decode cX10_sign 22 = .ok (.aload_n 0, 1) := by decide +kernel
theorem dX10_sign_23 : decode cX10_sign 23 = .ok (.getfield 99, 3) := by decide +kernel
theorem dX10_sign_26 : decode cX10_sign 26 = .ok (.iaload, 1) := by decide +kernel
theorem dX10_sign_27 : decode cX10_sign 27 = .ok (.goto 4, 3) := by decide +kernel
theorem dX10_sign_30 : decode cX10_sign 30 = .ok (.iconst 0, 1) := by decide +kernel
theorem dX10_sign_31 : decode cX10_sign 31 = .ok (.istore_n 3, 1) := by decide +kernel
theorem dX10_sign_32 : decode cX10_sign 32 = .ok (.aload_n 0, 1) := by decide +kernel
theorem dX10_sign_33 : decode cX10_sign 33 = .ok (.aload_n 0, 1) := by decide +kernel
theorem dX10_sign_34 : decode cX10_sign 34 = .ok (.getfield 102, 3) := by decide +kernel
theorem dX10_sign_37 : decode cX10_sign 37 = .ok (.ifCond .ne 12, 3) := by decide +kernel
theorem dX10_sign_40 : decode cX10_sign 40 = .ok (.iload_n 3, 1) := by decide +kernel
theorem dX10_sign_41 : decode cX10_sign 41 = .ok (.iload_n 1, 1) := by decide +kernel
theorem dX10_sign_42 : decode cX10_sign 42 = .ok (.iload_n 2, 1) := by decide +kernel
theorem dX10_sign_43 : decode cX10_sign 43 = .ok (.invokestatic 48, 3) := by decide +kernel
theorem dX10_sign_46 : decode cX10_sign 46 = .ok (.ifCond .ne 7, 3) := by decide +kernel
theorem dX10_sign_49 : decode cX10_sign 49 = .ok (.iconst 1, 1) := by decide +kernel
theorem dX10_sign_50 : decode cX10_sign 50 = .ok (.goto 4, 3) := by decide +kernel
theorem dX10_sign_53 : decode cX10_sign 53 = .ok (.iconst 0, 1) := by decide +kernel
theorem dX10_sign_54 : decode cX10_sign 54 = .ok (.putfield 102, 3) := by decide +kernel
theorem dX10_sign_57 : decode cX10_sign 57 = .ok (.aload_n 0, 1) := by decide +kernel
theorem dX10_sign_58 : decode cX10_sign 58 = .ok (.dup, 1) := by decide +kernel
theorem dX10_sign_59 : decode cX10_sign 59 = .ok (.getfield 99, 3) := by decide +kernel
theorem dX10_sign_62 : decode cX10_sign 62 = .ok (.aload_n 0, 1) := by decide +kernel
theorem dX10_sign_63 : decode cX10_sign 63 = .ok (.getfield 102, 3) := by decide +kernel
theorem dX10_sign_66 : decode cX10_sign 66 = .ok (.ifCond .eq 7, 3) := by decide +kernel
theorem dX10_sign_69 : decode cX10_sign 69 = .ok (.iconst 0, 1) := by decide +kernel
theorem dX10_sign_70 : decode cX10_sign 70 = .ok (.goto 4, 3) := by decide +kernel
theorem dX10_sign_73 : decode cX10_sign 73 = .ok (.iconst 1, 1) := by decide +kernel
theorem dX10_sign_74 : decode cX10_sign 74 = .ok (.iadd, 1) := by decide +kernel
theorem dX10_sign_75 : decode cX10_sign 75 = .ok (.putfield 99, 3) := by decide +kernel
theorem dX10_sign_78 : decode cX10_sign 78 = .ok (.iload_n 3, 1) := by decide +kernel
theorem dX10_sign_79 : decode cX10_sign 79 = .ok (.ireturn, 1) := by decide +kernel
theorem dX10_number_0 : decode cX10_number 0 = .ok (.aload_n 0, 1) := by decide +kernel
theorem dX10_number_1 : decode cX10_number 1 = .ok (.bipush 48, 2) := by decide +kernel
theorem dX10_number_3 : decode cX10_number 3 = .ok (.iload_n 1, 1) := by decide +kernel
theorem dX10_number_4 : decode cX10_number 4 = .ok (.iadd, 1) := by decide +kernel
theorem dX10_number_5 : decode cX10_number 5 = .ok (.bipush 57, 2) := by decide +kernel
theorem dX10_number_7 : decode cX10_number 7 = .ok (.invokevirtual 106, 3) := by decide +kernel
theorem dX10_number_10 : decode cX10_number 10 = .ok (.bipush 48, 2) := by decide +kernel
theorem dX10_number_12 : decode cX10_number 12 = .ok (.isub, 1) := by decide +kernel
theorem dX10_number_13 : decode cX10_number 13 = .ok (.istore_n 3, 1) := by decide +kernel
theorem dX10_number_14 : decode cX10_number 14 = .ok (.aload_n 0, 1) := by decide +kernel
theorem dX10_number_15 : decode cX10_number 15 = .ok (.getfield 102, 3) := by decide +kernel
theorem dX10_number_18 : decode cX10_number 18 = .ok (.ifCond .ne 62, 3) := by decide +kernel
theorem dX10_number_21 : decode cX10_number 21 = .ok (.iload_n 3, 1) := by decide +kernel
theorem dX10_number_22 : decode cX10_number 22 = .ok (.ifCond .le 58, 3) := by decide +kernel
theorem dX10_number_25 : decode cX10_number 25 = .ok (.aload_n 0, 1) := by decide +kernel
theorem dX10_number_26 : decode cX10_number 26 = .ok (.getfield 99, 3) := by decide +kernel
theorem dX10_number_29 : decode cX10_number 29 = .ok (.aload_n 0, 1) := by decide +kernel
theorem dX10_number_30 : decode cX10_number 30 = .ok (.getfield 96, 3) := by decide +kernel
theorem dX10_number_33 : decode cX10_number 33 = .ok (.if_icmp .ge 47, 3) := by decide +kernel
theorem dX10_number_36 : decode cX10_number 36 = .ok (.aload_n 0, 1) := by decide +kernel
theorem dX10_number_37 : decode cX10_number 37 = .ok (.getfield 23, 3) := by decide +kernel
theorem dX10_number_40 : decode cX10_number 40 = .ok (.aload_n 0, 1) := by decide +kernel
theorem dX10_number_41 : decode cX10_number 41 = .ok (.getfield 99, 3) := by decide +kernel
theorem dX10_number_44 : decode cX10_number 44 = .ok (.iaload, 1) := by decide +kernel
theorem dX10_number_45 : decode cX10_number 45 = .ok (.bipush 48, 2) := by decide +kernel
theorem dX10_number_47 : decode cX10_number 47 = .ok (.bipush 57, 2) := by decide +kernel
theorem dX10_number_49 : decode cX10_number 49 = .ok (.invokestatic 48, 3) := by decide +kernel
theorem dX10_number_52 : decode cX10_number 52 = .ok (.ifCond .eq 28, 3) := by decide +kernel
theorem dX10_number_55 : decode cX10_number 55 = .ok (.bipush 10, 2) := by decide +kernel
theorem dX10_number_57 : decode cX10_number 57 = .ok (.iload_n 3, 1) := by decide +kernel
theorem dX10_number_58 : decode cX10_number 58 = .ok (.imul, 1) := by decide +kernel
theorem dX10_number_59 : decode cX10_number 59 = .ok (.aload_n 0, 1) := by decide +kernel
theorem dX10_number_60 : decode cX10_number 60 = .ok (.getfield 23, 3) := by decide +kernel
theorem dX10_number_63 : decode cX10_number 63 = .ok (.aload_n 0, 1) := by decide +kernel
theorem dX10_number_64 : decode cX10_number 64 = .ok (.getfield 99, 3) := by decide +kernel
theorem dX10_number_67 : decode cX10_number 67 = .ok (.iaload, 1) := by decide +kernel
theorem dX10_number_68 : decode cX10_number 68 = .ok (.iadd, 1) := by decide +kernel
theorem dX10_number_69 : decode cX10_number 69 = .ok (.bipush 48, 2) := by decide +kernel
theorem dX10_number_71 : decode cX10_number 71 = .ok (.isub, 1) := by decide +kernel
theorem dX10_number_72 : decode cX10_number 72 = .ok (.iload_n 2, 1) := by decide +kernel
theorem dX10_number_73 : decode cX10_number 73 = .ok (.if_icmp .gt 7, 3) := by decide +kernel
theorem dX10_number_76 : decode cX10_number 76 = .ok (.iconst 1, 1) := by decide +kernel
theorem dX10_number_77 : decode cX10_number 77 = .ok (.goto 4, 3) := by decide +kernel
theorem dX10_number_80 : decode cX10_number 80 = .ok (.iconst 0, 1) := by decide +kernel
theorem dX10_number_81 : decode cX10_number 81 = .ok (.istore 4, 2) := by decide +kernel
theorem dX10_number_83 : decode cX10_number 83 = .ok (.iload 4, 2) := by decide +kernel
theorem dX10_number_85 : decode cX10_number 85 = .ok (.ifCond .eq 22, 3) := by decide +kernel
theorem dX10_number_88 : decode cX10_number 88 = .ok (.bipush 10, 2) := by decide +kernel
theorem dX10_number_90 : decode cX10_number 90 = .ok (.iload_n 3, 1) := by decide +kernel
theorem dX10_number_91 : decode cX10_number 91 = .ok (.imul, 1) := by decide +kernel
theorem dX10_number_92 : decode cX10_number 92 = .ok (.aload_n 0, 1) := by decide +kernel
theorem dX10_number_93 : decode cX10_number 93 = .ok (.bipush 48, 2) := by decide +kernel
theorem dX10_number_95 : decode cX10_number 95 = .ok (.bipush 57, 2) := by decide +kernel
theorem dX10_number_97 : decode cX10_number 97 = .ok (.invokevirtual 106, 3) := by decide +kernel
theorem dX10_number_100 : decode cX10_number 100 = .ok (.iadd, 1) := by decide +kernel
theorem dX10_number_101 : decode cX10_number 101 = .ok (.bipush 48, 2) := by decide +kernel
theorem dX10_number_103 : decode cX10_number 103 = .ok (.isub, 1) := by decide +kernel
theorem dX10_number_104 : decode cX10_number 104 = .ok (.goto 4, 3) := by decide +kernel
theorem dX10_number_107 : decode cX10_number 107 = .ok (.iload_n 3, 1) := by decide +kernel
theorem dX10_number_108 : decode cX10_number 108 = .ok (.ireturn, 1) := by decide +kernel
theorem dX10_order_0 : decode cX10_order 0 = .ok (.aload_n 0, 1) := by decide +kernel
theorem dX10_order_1 : decode cX10_order 1 = .ok (.getfield 99, 3) := by decide +kernel
theorem dX10_order_4 : decode cX10_order 4 = .ok (.aload_n 0, 1) := by decide +kernel
theorem dX10_order_5 : decode cX10_order 5 = .ok (.getfield 96, 3) := by decide +kernel
theorem dX10_order_8 : decode cX10_order 8 = .ok (.if_icmp .ge 22, 3) := by decide +kernel
theorem dX10_order_11 : decode cX10_order 11 = .ok (.aload_n 0, 1) := by decide +kernel
theorem dX10_order_12 : decode cX10_order 12 = .ok (.getfield 102, 3) := by decide +kernel
theorem dX10_order_15 : decode cX10_order 15 = .ok (.ifCond .ne 15, 3) := by decide +kernel
theorem dX10_order_18 : decode cX10_order 18 = .ok (.aload_n 0, 1) := by decide +kernel
theorem dX10_order_19 : decode cX10_order 19 = .ok (.getfield 23, 3) := by decide +kernel
theorem dX10_order_22 : decode cX10_order 22 = .ok (.aload_n 0, 1) := by decide +kernel
theorem dX10_order_23 : decode cX10_order 23 = .ok (.getfield 99, 3) := by decide +kernel
theorem dX10_order_26 : decode cX10_order 26 = .ok (.iaload, 1) := by decide +kernel
theorem dX10_order_27 : decode cX10_order 27 = .ok (.goto 4, 3) := by decide +kernel
theorem dX10_order_30 : decode cX10_order 30 = .ok (.iconst 0, 1) := by decide +kernel
theorem dX10_order_31 : decode cX10_order 31 = .ok (.istore_n 2, 1) := by decide +kernel
theorem dX10_order_32 : decode cX10_order 32 = .ok (.aload_n 0, 1) := by decide +kernel
theorem dX10_order_33 : decode cX10_order 33 = .ok (.aload_n 0, 1) := by decide +kernel
theorem dX10_order_34 : decode cX10_order 34 = .ok (.getfield 102, 3) := by decide +kernel
theorem dX10_order_37 : decode cX10_order 37 = .ok (.ifCond .ne 27, 3) := by decide +kernel
theorem dX10_order_40 : decode cX10_order 40 = .ok (.iload_n 2, 1) := by decide +kernel
theorem dX10_order_41 : decode cX10_order 41 = .ok (.bipush 115, 2) := by decide +kernel
theorem dX10_order_43 : decode cX10_order 43 = .ok (.if_icmp .eq 25, 3) := by decide +kernel
theorem dX10_order_46 : decode cX10_order 46 = .ok (.iload_n 2, 1) := by decide +kernel
theorem dX10_order_47 : decode cX10_order 47 = .ok (.bipush 104, 2) := by decide +kernel
theorem dX10_order_49 : decode cX10_order 49 = .ok (.if_icmp .eq 19, 3) := by decide +kernel
theorem dX10_order_52 : decode cX10_order 52 = .ok (.iload_n 2, 1) := by decide +kernel
theorem dX10_order_53 : decode cX10_order 53 = .ok (.bipush 100, 2) := by decide +kernel
theorem dX10_order_55 : decode cX10_order 55 = .ok (.if_icmp .eq 13, 3) := by decide +kernel
theorem dX10_order_58 : decode cX10_order 58 = .ok (.iload_n 2, 1) := by decide +kernel
theorem dX10_order_59 : decode cX10_order 59 = .ok (.bipush 126, 2) := by decide +kernel
theorem dX10_order_61 : decode cX10_order 61 = .ok (.if_icmp .eq 7, 3) := by decide +kernel
theorem dX10_order_64 : decode cX10_order 64 = .ok (.iconst 1, 1) := by decide +kernel
theorem dX10_order_65 : decode cX10_order 65 = .ok (.goto 4, 3) := by decide +kernel
theorem dX10_order_68 : decode cX10_order 68 = .ok (.iconst 0, 1) := by decide +kernel
theorem dX10_order_69 : decode cX10_order 69 = .ok (.putfield 102, 3) := by decide +kernel
theorem dX10_order_72 : decode cX10_order 72 = .ok (.aload_n 0, 1) := by decide +kernel
theorem dX10_order_73 : decode cX10_order 73 = .ok (.dup, 1) := by decide +kernel
theorem dX10_order_74 : decode cX10_order 74 = .ok (.getfield 99, 3) := by decide +kernel
theorem dX10_order_77 : decode cX10_order 77 = .ok (.aload_n 0, 1) := by decide +kernel
theorem dX10_order_78 : decode cX10_order 78 = .ok (.getfield 102, 3) := by decide +kernel
theorem dX10_order_81 : decode cX10_order 81 = .ok (.ifCond .eq 7, 3) := by decide +kernel
theorem dX10_order_84 : decode cX10_order 84 = .ok (.iconst 0, 1) := by decide +kernel
theorem dX10_order_85 : decode cX10_order 85 = .ok (.goto 4, 3) := by decide +kernel
theorem dX10_order_88 : decode cX10_order 88 = .ok (.iconst 1, 1) := by decide +kernel
theorem dX10_order_89 : decode cX10_order 89 = .ok (.iadd, 1) := by decide +kernel
theorem dX10_order_90 : decode cX10_order 90 = .ok (.putfield 99, 3) := by decide +kernel
theorem dX10_order_93 : decode cX10_order 93 = .ok (.iload_n 2, 1) := by decide +kernel
theorem dX10_order_94 : decode cX10_order 94 = .ok (.bipush 126, 2) := by decide +kernel
theorem dX10_order_96 : decode cX10_order 96 = .ok (.if_icmp .ne 17, 3) := by decide +kernel
theorem dX10_order_99 : decode cX10_order 99 = .ok (.iload_n 1, 1) := by decide +kernel
theorem dX10_order_100 : decode cX10_order 100 = .ok (.ifCond .eq 10, 3) := by decide +kernel
theorem dX10_order_103 : decode cX10_order 103 = .ok (.aload_n 0, 1) := by decide +kernel
theorem dX10_order_104 : decode cX10_order 104 = .ok (.invokevirtual 87, 3) := by decide +kernel
theorem dX10_order_107 : decode cX10_order 107 = .ok (.goto 4, 3) := by decide +kernel
theorem dX10_order_110 : decode cX10_order 110 = .ok (.iconst 0, 1) := by decide +kernel
theorem dX10_order_111 : decode cX10_order 111 = .ok (.istore_n 3, 1) := by decide +kernel
theorem dX10_order_112 : decode cX10_order 112 = .ok (.return_, 1) := by decide +kernel
theorem dX10_order_113 : decode cX10_order 113 = .ok (.aload_n 0, 1) := by decide +kernel
theorem dX10_order_114 : decode cX10_order 114 = .ok (.bipush 48, 2) := by decide +kernel
theorem dX10_order_116 : decode cX10_order 116 = .ok (.bipush 54, 2) := by decide +kernel
theorem dX10_order_118 : decode cX10_order 118 = .ok (.invokevirtual 106, 3) := by decide +kernel
theorem dX10_order_121 : decode cX10_order 121 = .ok (.bipush 48, 2) := by decide +kernel
theorem dX10_order_123 : decode cX10_order 123 = .ok (.isub, 1) := by decide +kernel
theorem dX10_order_124 : decode cX10_order 124 = .ok (.istore_n 3, 1) := by decide +kernel
theorem dX10_order_125 : decode cX10_order 125 = .ok (.aload_n 0, 1) := by decide +kernel
theorem dX10_order_126 : decode cX10_order 126 = .ok (.bipush 48, 2) := by decide +kernel
theorem dX10_order_128 : decode cX10_order 128 = .ok (.bipush 54, 2) := by decide +kernel
theorem dX10_order_130 : decode cX10_order 130 = .ok (.invokevirtual 106, 3) := by decide +kernel
theorem dX10_order_133 : decode cX10_order 133 = .ok (.bipush 48, 2) := by decide +kernel
theorem dX10_order_135 : decode cX10_order 135 = .ok (.isub, 1) := by decide +kernel
theorem dX10_order_136 : decode cX10_order 136 = .ok (.istore 4, 2) := by decide +kernel
theorem dX10_order_138 : decode cX10_order 138 = .ok (.iload_n 2, 1) := by decide +kernel
theorem dX10_order_139 : decode cX10_order 139 = .ok (.bipush 115, 2) := by decide +kernel
theorem dX10_order_141 : decode cX10_order 141 = .ok (.if_icmp .ne 14, 3) := by decide +kernel
theorem dX10_order_144 : decode cX10_order 144 = .ok (.aload_n 0, 1) := by decide +kernel
theorem dX10_order_145 : decode cX10_order 145 = .ok (.bipush 61, 2) := by decide +kernel
theorem dX10_order_147 : decode cX10_order 147 = .ok (.bipush 61, 2) := by decide +kernel
theorem dX10_order_149 : decode cX10_order 149 = .ok (.invokevirtual 106, 3) := by decide +kernel
theorem dX10_order_152 : decode cX10_order 152 = .ok (.goto 11, 3) := by decide +kernel
theorem dX10_order_155 : decode cX10_order 155 = .ok (.aload_n 0, 1) := by decide +kernel
theorem dX10_order_156 : decode cX10_order 156 = .ok (.bipush 42, 2) := by decide +kernel
theorem dX10_order_158 : decode cX10_order 158 = .ok (.bipush 42, 2) := by decide +kernel
theorem dX10_order_160 : decode cX10_order 160 = .ok (.invokevirtual 106, 3) := by decide +kernel
theorem dX10_order_163 : decode cX10_order 163 = .ok (.istore 5, 2) := by decide +kernel
theorem dX10_order_165 : decode cX10_order 165 = .ok (.iload_n 2, 1) := by decide +kernel
theorem dX10_order_166 : decode cX10_order 166 = .ok (.bipush 115, 2) := by decide +kernel
theorem dX10_order_168 : decode cX10_order 168 = .ok (.if_icmp .ne 13, 3) := by decide +kernel
theorem dX10_order_171 : decode cX10_order 171 = .ok (.aload_n 0, 1) := by decide +kernel
theorem dX10_order_172 : decode cX10_order 172 = .ok (.iconst 0, 1) := by decide +kernel
theorem dX10_order_173 : decode cX10_order 173 = .ok (.bipush 99, 2) := by decide +kernel
theorem dX10_order_175 : decode cX10_order 175 = .ok (.invokevirtual 109, 3) := by decide +kernel
theorem dX10_order_178 : decode cX10_order 178 = .ok (.goto 10, 3) := by decide +kernel
theorem dX10_order_181 : decode cX10_order 181 = .ok (.aload_n 0, 1) := by decide +kernel
theorem dX10_order_182 : decode cX10_order 182 = .ok (.iconst 1, 1) := by decide +kernel
theorem dX10_order_183 : decode cX10_order 183 = .ok (.bipush 60, 2) := by decide +kernel
theorem dX10_order_185 : decode cX10_order 185 = .ok (.invokevirtual 109, 3) := by decide +kernel
theorem dX10_order_188 : decode cX10_order 188 = .ok (.istore 6, 2) := by decide +kernel
theorem dX10_order_190 : decode cX10_order 190 = .ok (.iload_n 1, 1) := by decide +kernel
theorem dX10_order_191 : decode cX10_order 191 = .ok (.ifCond .eq 23, 3) := by decide +kernel
theorem dX10_order_194 : decode cX10_order 194 = .ok (.iload_n 2, 1) := by decide +kernel
theorem dX10_order_195 : decode cX10_order 195 = .ok (.bipush 115, 2) := by decide +kernel
theorem dX10_order_197 : decode cX10_order 197 = .ok (.if_icmp .ne 17, 3) := by decide +kernel
theorem dX10_order_200 : decode cX10_order 200 = .ok (.aload_n 0, 1) := by decide +kernel
theorem dX10_order_201 : decode cX10_order 201 = .ok (.getfield 7, 3) := by decide +kernel
theorem dX10_order_204 : decode cX10_order 204 = .ok (.bipush 7, 2) := by decide +kernel
theorem dX10_order_206 : decode cX10_order 206 = .ok (.iload_n 3, 1) := by decide +kernel
theorem dX10_order_207 : decode cX10_order 207 = .ok (.imul, 1) := by decide +kernel
theorem dX10_order_208 : decode cX10_order 208 = .ok (.iload 4, 2) := by decide +kernel
theorem dX10_order_210 : decode cX10_order 210 = .ok (.iadd, 1) := by decide +kernel
theorem dX10_order_211 : decode cX10_order 211 = .ok (.iload 6, 2) := by decide +kernel
theorem dX10_order_213 : decode cX10_order 213 = .ok (.iastore, 1) := by decide +kernel
theorem dX10_order_214 : decode cX10_order 214 = .ok (.iload_n 1, 1) := by decide +kernel
theorem dX10_order_215 : decode cX10_order 215 = .ok (.ifCond .eq 32, 3) := by decide +kernel
theorem dX10_order_218 : decode cX10_order 218 = .ok (.iload_n 2, 1) := by decide +kernel
theorem dX10_order_219 : decode cX10_order 219 = .ok (.bipush 115, 2) := by decide +kernel
theorem dX10_order_221 : decode cX10_order 221 = .ok (.if_icmp .eq 26, 3) := by decide +kernel
theorem dX10_order_224 : decode cX10_order 224 = .ok (.aload_n 0, 1) := by decide +kernel
theorem dX10_order_225 : decode cX10_order 225 = .ok (.iload_n 3, 1) := by decide +kernel
theorem dX10_order_226 : decode cX10_order 226 = .ok (.iload 4, 2) := by decide +kernel
theorem dX10_order_228 : decode cX10_order 228 = .ok (.iload_n 2, 1) := by decide +kernel
theorem dX10_order_229 : decode cX10_order 229 = .ok (.bipush 104, 2) := by decide +kernel
theorem dX10_order_231 : decode cX10_order 231 = .ok (.if_icmp .ne 8, 3) := by decide +kernel
theorem dX10_order_234 : decode cX10_order 234 = .ok (.iload 6, 2) := by decide +kernel
theorem dX10_order_236 : decode cX10_order 236 = .ok (.goto 6, 3) := by decide +kernel
theorem dX10_order_239 : decode cX10_order 239 = .ok (.iload 6, 2) := by decide +kernel
theorem dX10_order_241 : decode cX10_order 241 = .ok (.ineg, 1) := by decide +kernel
theorem dX10_order_242 : decode cX10_order 242 = .ok (.invokevirtual 83, 3) := by decide +kernel
theorem dX10_order_245 : decode cX10_order 245 = .ok (.istore 7, 2) := by decide +kernel
theorem dX10_order_247 : decode cX10_order 247 = .ok (.return_, 1) := by decide +kernel
theorem dX10_go_0 : decode cX10_go 0 = .ok (.aload_n 0, 1) := by decide +kernel
theorem dX10_go_1 : decode cX10_go 1 = .ok (.iconst 0, 1) := by decide +kernel
theorem dX10_go_2 : decode cX10_go 2 = .ok (.putfield 99, 3) := by decide +kernel
theorem dX10_go_5 : decode cX10_go 5 = .ok (.aload_n 0, 1) := by decide +kernel
theorem dX10_go_6 : decode cX10_go 6 = .ok (.iconst 0, 1) := by decide +kernel
theorem dX10_go_7 : decode cX10_go 7 = .ok (.putfield 102, 3) := by decide +kernel
theorem dX10_go_10 : decode cX10_go 10 = .ok (.iconst 0, 1) := by decide +kernel
theorem dX10_go_11 : decode cX10_go 11 = .ok (.istore_n 2, 1) := by decide +kernel
theorem dX10_go_12 : decode cX10_go 12 = .ok (.iconst 1, 1) := by decide +kernel
theorem dX10_go_13 : decode cX10_go 13 = .ok (.istore_n 3, 1) := by decide +kernel
theorem dX10_go_14 : decode cX10_go 14 = .ok (.iload_n 3, 1) := by decide +kernel
theorem dX10_go_15 : decode cX10_go 15 = .ok (.ifCond .eq 65, 3) := by decide +kernel
theorem dX10_go_18 : decode cX10_go 18 = .ok (.aload_n 0, 1) := by decide +kernel
theorem dX10_go_19 : decode cX10_go 19 = .ok (.iload_n 1, 1) := by decide +kernel
theorem dX10_go_20 : decode cX10_go 20 = .ok (.invokevirtual 112, 3) := by decide +kernel
theorem dX10_go_23 : decode cX10_go 23 = .ok (.iinc 2 1, 3) := by decide +kernel
theorem dX10_go_26 : decode cX10_go 26 = .ok (.aload_n 0, 1) := by decide +kernel
theorem dX10_go_27 : decode cX10_go 27 = .ok (.getfield 102, 3) := by decide +kernel
theorem dX10_go_30 : decode cX10_go 30 = .ok (.ifCond .ne 18, 3) := by decide +kernel
theorem dX10_go_33 : decode cX10_go 33 = .ok (.aload_n 0, 1) := by decide +kernel
theorem dX10_go_34 : decode cX10_go 34 = .ok (.getfield 99, 3) := by decide +kernel
theorem dX10_go_37 : decode cX10_go 37 = .ok (.aload_n 0, 1) := by decide +kernel
theorem dX10_go_38 : decode cX10_go 38 = .ok (.getfield 96, 3) := by decide +kernel
theorem dX10_go_41 : decode cX10_go 41 = .ok (.if_icmp .ge 7, 3) := by decide +kernel
theorem dX10_go_44 : decode cX10_go 44 = .ok (.iconst 1, 1) := by decide +kernel
theorem dX10_go_45 : decode cX10_go 45 = .ok (.goto 4, 3) := by decide +kernel
theorem dX10_go_48 : decode cX10_go 48 = .ok (.iconst 0, 1) := by decide +kernel
theorem dX10_go_49 : decode cX10_go 49 = .ok (.istore_n 3, 1) := by decide +kernel
theorem dX10_go_50 : decode cX10_go 50 = .ok (.iload_n 3, 1) := by decide +kernel
theorem dX10_go_51 : decode cX10_go 51 = .ok (.ifCond .eq (-37), 3) := by decide +kernel
theorem dX10_go_54 : decode cX10_go 54 = .ok (.aload_n 0, 1) := by decide +kernel
theorem dX10_go_55 : decode cX10_go 55 = .ok (.bipush 59, 2) := by decide +kernel
theorem dX10_go_57 : decode cX10_go 57 = .ok (.bipush 59, 2) := by decide +kernel
theorem dX10_go_59 : decode cX10_go 59 = .ok (.invokevirtual 106, 3) := by decide +kernel
theorem dX10_go_62 : decode cX10_go 62 = .ok (.istore 4, 2) := by decide +kernel
theorem dX10_go_64 : decode cX10_go 64 = .ok (.aload_n 0, 1) := by decide +kernel
theorem dX10_go_65 : decode cX10_go 65 = .ok (.getfield 102, 3) := by decide +kernel
theorem dX10_go_68 : decode cX10_go 68 = .ok (.ifCond .ne 7, 3) := by decide +kernel
theorem dX10_go_71 : decode cX10_go 71 = .ok (.iconst 1, 1) := by decide +kernel
theorem dX10_go_72 : decode cX10_go 72 = .ok (.goto 4, 3) := by decide +kernel
theorem dX10_go_75 : decode cX10_go 75 = .ok (.iconst 0, 1) := by decide +kernel
theorem dX10_go_76 : decode cX10_go 76 = .ok (.istore_n 3, 1) := by decide +kernel
theorem dX10_go_77 : decode cX10_go 77 = .ok (.goto (-63), 3) := by decide +kernel
theorem dX10_go_80 : decode cX10_go 80 = .ok (.iload_n 2, 1) := by decide +kernel
theorem dX10_go_81 : decode cX10_go 81 = .ok (.ireturn, 1) := by decide +kernel
theorem dX10_firstError_0 : decode cX10_firstError 0 = .ok (.aload_n 0, 1) := by decide +kernel
theorem dX10_firstError_1 : decode cX10_firstError 1 = .ok (.iconst 0, 1) := by decide +kernel
theorem dX10_firstError_2 : decode cX10_firstError 2 = .ok (.putfield 44, 3) := by decide +kernel
theorem dX10_firstError_5 : decode cX10_firstError 5 = .ok (.aload_n 0, 1) := by decide +kernel
theorem dX10_firstError_6 : decode cX10_firstError 6 = .ok (.iconst 0, 1) := by decide +kernel
theorem dX10_firstError_7 : decode cX10_firstError 7 = .ok (.invokevirtual 116, 3) := by decide +kernel
theorem dX10_firstError_10 : decode cX10_firstError 10 = .ok (.istore_n 1, 1) := by decide +kernel
theorem dX10_firstError_11 : decode cX10_firstError 11 = .ok (.aload_n 0, 1) := by decide +kernel
theorem dX10_firstError_12 : decode cX10_firstError 12 = .ok (.getfield 102, 3) := by decide +kernel
theorem dX10_firstError_15 : decode cX10_firstError 15 = .ok (.ifCond .eq 10, 3) := by decide +kernel
theorem dX10_firstError_18 : decode cX10_firstError 18 = .ok (.aload_n 0, 1) := by decide +kernel
theorem dX10_firstError_19 : decode cX10_firstError 19 = .ok (.getfield 99, 3) := by decide +kernel
theorem dX10_firstError_22 : decode cX10_firstError 22 = .ok (.goto 7, 3) := by decide +kernel
theorem dX10_firstError_25 : decode cX10_firstError 25 = .ok (.aload_n 0, 1) := by decide +kernel
theorem dX10_firstError_26 : decode cX10_firstError 26 = .ok (.getfield 96, 3) := by decide +kernel
theorem dX10_firstError_29 : decode cX10_firstError 29 = .ok (.ireturn, 1) := by decide +kernel
theorem dX10_draw_0 : decode cX10_draw 0 = .ok (.aload_n 0, 1) := by decide +kernel
theorem dX10_draw_1 : decode cX10_draw 1 = .ok (.iconst 0, 1) := by decide +kernel
theorem dX10_draw_2 : decode cX10_draw 2 = .ok (.putfield 44, 3) := by decide +kernel
theorem dX10_draw_5 : decode cX10_draw 5 = .ok (.aload_n 0, 1) := by decide +kernel
theorem dX10_draw_6 : decode cX10_draw 6 = .ok (.iconst 0, 1) := by decide +kernel
theorem dX10_draw_7 : decode cX10_draw 7 = .ok (.invokevirtual 116, 3) := by decide +kernel
theorem dX10_draw_10 : decode cX10_draw 10 = .ok (.istore_n 1, 1) := by decide +kernel
theorem dX10_draw_11 : decode cX10_draw 11 = .ok (.aload_n 0, 1) := by decide +kernel
theorem dX10_draw_12 : decode cX10_draw 12 = .ok (.getfield 102, 3) := by decide +kernel
theorem dX10_draw_15 : decode cX10_draw 15 = .ok (.ifCond .eq 9, 3) := by decide +kernel
theorem dX10_draw_18 : decode cX10_draw 18 = .ok (.aload_n 0, 1) := by decide +kernel
theorem dX10_draw_19 : decode cX10_draw 19 = .ok (.iconst 1, 1) := by decide +kernel
theorem dX10_draw_20 : decode cX10_draw 20 = .ok (.invokevirtual 90, 3) := by decide +kernel
theorem dX10_draw_23 : decode cX10_draw 23 = .ok (.ireturn, 1) := by decide +kernel
theorem dX10_draw_24 : decode cX10_draw 24 = .ok (.aload_n 0, 1) := by decide +kernel
theorem dX10_draw_25 : decode cX10_draw 25 = .ok (.invokevirtual 80, 3) := by decide +kernel
theorem dX10_draw_28 : decode cX10_draw 28 = .ok (.aload_n 0, 1) := by decide +kernel
theorem dX10_draw_29 : decode cX10_draw 29 = .ok (.iconst 1, 1) := by decide +kernel
theorem dX10_draw_30 : decode cX10_draw 30 = .ok (.invokevirtual 116, 3) := by decide +kernel
theorem dX10_draw_33 : decode cX10_draw 33 = .ok (.istore_n 1, 1) := by decide +kernel
theorem dX10_draw_34 : decode cX10_draw 34 = .ok (.aload_n 0, 1) := by decide +kernel
theorem dX10_draw_35 : decode cX10_draw 35 = .ok (.iconst 0, 1) := by decide +kernel
theorem dX10_draw_36 : decode cX10_draw 36 = .ok (.putfield 96, 3) := by decide +kernel
theorem dX10_draw_39 : decode cX10_draw 39 = .ok (.iload_n 1, 1) := by decide +kernel
theorem dX10_draw_40 : decode cX10_draw 40 = .ok (.ireturn, 1) := by decide +kernel
theorem dX10_keep_0 : decode cX10_keep 0 = .ok (.aload_n 0, 1) := by decide +kernel
theorem dX10_keep_1 : decode cX10_keep 1 = .ok (.iload_n 1, 1) := by decide +kernel
theorem dX10_keep_2 : decode cX10_keep 2 = .ok (.iconst 0, 1) := by decide +kernel
theorem dX10_keep_3 : decode cX10_keep 3 = .ok (.iconst 1, 1) := by decide +kernel
theorem dX10_keep_4 : decode cX10_keep 4 = .ok (.invokestatic 48, 3) := by decide +kernel
theorem dX10_keep_7 : decode cX10_keep 7 = .ok (.ifCond .eq 7, 3) := by decide +kernel
theorem dX10_keep_10 : decode cX10_keep 10 = .ok (.iconst 0, 1) := by decide +kernel
theorem dX10_keep_11 : decode cX10_keep 11 = .ok (.goto 4, 3) := by decide +kernel
theorem dX10_keep_14 : decode cX10_keep 14 = .ok (.iconst 1, 1) := by decide +kernel
theorem dX10_keep_15 : decode cX10_keep 15 = .ok (.putfield 44, 3) := by decide +kernel
theorem dX10_keep_18 : decode cX10_keep 18 = .ok (.iconst 0, 1) := by decide +kernel
theorem dX10_keep_19 : decode cX10_keep 19 = .ok (.istore_n 2, 1) := by decide +kernel
theorem dX10_keep_20 : decode cX10_keep 20 = .ok (.iload_n 2, 1) := by decide +kernel
theorem dX10_keep_21 : decode cX10_keep 21 = .ok (.bipush 49, 2) := by decide +kernel
theorem dX10_keep_23 : decode cX10_keep 23 = .ok (.if_icmp .ge 33, 3) := by decide +kernel
theorem dX10_keep_26 : decode cX10_keep 26 = .ok (.aload_n 0, 1) := by decide +kernel
theorem dX10_keep_27 : decode cX10_keep 27 = .ok (.getfield 44, 3) := by decide +kernel
theorem dX10_keep_30 : decode cX10_keep 30 = .ok (.ifCond .ne 26, 3) := by decide +kernel
theorem dX10_keep_33 : decode cX10_keep 33 = .ok (.aload_n 0, 1) := by decide +kernel
theorem dX10_keep_34 : decode cX10_keep 34 = .ok (.getfield 16, 3) := by decide +kernel
theorem dX10_keep_37 : decode cX10_keep 37 = .ok (.bipush 49, 2) := by decide +kernel
theorem dX10_keep_39 : decode cX10_keep 39 = .ok (.iload_n 1, 1) := by decide +kernel
theorem dX10_keep_40 : decode cX10_keep 40 = .ok (.imul, 1) := by decide +kernel
theorem dX10_keep_41 : decode cX10_keep 41 = .ok (.iload_n 2, 1) := by decide +kernel
theorem dX10_keep_42 : decode cX10_keep 42 = .ok (.iadd, 1) := by decide +kernel
theorem dX10_keep_43 : decode cX10_keep 43 = .ok (.aload_n 0, 1) := by decide +kernel
theorem dX10_keep_44 : decode cX10_keep 44 = .ok (.getfield 7, 3) := by decide +kernel
theorem dX10_keep_47 : decode cX10_keep 47 = .ok (.iload_n 2, 1) := by decide +kernel
theorem dX10_keep_48 : decode cX10_keep 48 = .ok (.iaload, 1) := by decide +kernel
theorem dX10_keep_49 : decode cX10_keep 49 = .ok (.iastore, 1) := by decide +kernel
theorem dX10_keep_50 : decode cX10_keep 50 = .ok (.iinc 2 1, 3) := by decide +kernel
theorem dX10_keep_53 : decode cX10_keep 53 = .ok (.goto (-33), 3) := by decide +kernel
theorem dX10_keep_56 : decode cX10_keep 56 = .ok (.aload_n 0, 1) := by decide +kernel
theorem dX10_keep_57 : decode cX10_keep 57 = .ok (.getfield 44, 3) := by decide +kernel
theorem dX10_keep_60 : decode cX10_keep 60 = .ok (.ifCond .ne 10, 3) := by decide +kernel
theorem dX10_keep_63 : decode cX10_keep 63 = .ok (.aload_n 0, 1) := by decide +kernel
theorem dX10_keep_64 : decode cX10_keep 64 = .ok (.getfield 19, 3) := by decide +kernel
theorem dX10_keep_67 : decode cX10_keep 67 = .ok (.iload_n 1, 1) := by decide +kernel
theorem dX10_keep_68 : decode cX10_keep 68 = .ok (.iconst 1, 1) := by decide +kernel
theorem dX10_keep_69 : decode cX10_keep 69 = .ok (.bastore, 1) := by decide +kernel
theorem dX10_keep_70 : decode cX10_keep 70 = .ok (.return_, 1) := by decide +kernel
theorem dX10_goBack_0 : decode cX10_goBack 0 = .ok (.aload_n 0, 1) := by decide +kernel
theorem dX10_goBack_1 : decode cX10_goBack 1 = .ok (.iload_n 1, 1) := by decide +kernel
theorem dX10_goBack_2 : decode cX10_goBack 2 = .ok (.iconst 0, 1) := by decide +kernel
theorem dX10_goBack_3 : decode cX10_goBack 3 = .ok (.iconst 1, 1) := by decide +kernel
theorem dX10_goBack_4 : decode cX10_goBack 4 = .ok (.invokestatic 48, 3) := by decide +kernel
theorem dX10_goBack_7 : decode cX10_goBack 7 = .ok (.ifCond .ne 7, 3) := by decide +kernel
theorem dX10_goBack_10 : decode cX10_goBack 10 = .ok (.iconst 1, 1) := by decide +kernel
theorem dX10_goBack_11 : decode cX10_goBack 11 = .ok (.goto 17, 3) := by decide +kernel
theorem dX10_goBack_14 : decode cX10_goBack 14 = .ok (.aload_n 0, 1) := by decide +kernel
theorem dX10_goBack_15 : decode cX10_goBack 15 = .ok (.getfield 19, 3) := by decide +kernel
theorem dX10_goBack_18 : decode cX10_goBack 18 = .ok (.iload_n 1, 1) := by decide +kernel
theorem dX10_goBack_19 : decode cX10_goBack 19 = .ok (.baload, 1) := by decide +kernel
theorem dX10_goBack_20 : decode cX10_goBack 20 = .ok (.ifCond .eq 7, 3) := by decide +kernel
theorem dX10_goBack_23 : decode cX10_goBack 23 = .ok (.iconst 0, 1) := by decide +kernel
theorem dX10_goBack_24 : decode cX10_goBack 24 = .ok (.goto 4, 3) := by decide +kernel
theorem dX10_goBack_27 : decode cX10_goBack 27 = .ok (.iconst 2, 1) := by decide +kernel
theorem dX10_goBack_28 : decode cX10_goBack 28 = .ok (.putfield 44, 3) := by decide +kernel
theorem dX10_goBack_31 : decode cX10_goBack 31 = .ok (.aload_n 0, 1) := by decide +kernel
theorem dX10_goBack_32 : decode cX10_goBack 32 = .ok (.getfield 44, 3) := by decide +kernel
theorem dX10_goBack_35 : decode cX10_goBack 35 = .ok (.ifCond .ne 38, 3) := by decide +kernel
theorem dX10_goBack_38 : decode cX10_goBack 38 = .ok (.aload_n 0, 1) := by decide +kernel
theorem dX10_goBack_39 : decode cX10_goBack 39 = .ok (.invokevirtual 80, 3) := by decide +kernel
theorem dX10_goBack_42 : decode cX10_goBack 42 = .ok (.iconst 0, 1) := by decide +kernel
theorem dX10_goBack_43 : decode cX10_goBack 43 = .ok (.istore_n 2, 1) := by decide +kernel
theorem dX10_goBack_44 : decode cX10_goBack 44 = .ok (.iload_n 2, 1) := by decide +kernel
theorem dX10_goBack_45 : decode cX10_goBack 45 = .ok (.bipush 49, 2) := by decide +kernel
theorem dX10_goBack_47 : decode cX10_goBack 47 = .ok (.if_icmp .ge 26, 3) := by decide +kernel
theorem dX10_goBack_50 : decode cX10_goBack 50 = .ok (.aload_n 0, 1) := by decide +kernel
theorem dX10_goBack_51 : decode cX10_goBack 51 = .ok (.getfield 7, 3) := by decide +kernel
theorem dX10_goBack_54 : decode cX10_goBack 54 = .ok (.iload_n 2, 1) := by decide +kernel
theorem dX10_goBack_55 : decode cX10_goBack 55 = .ok (.aload_n 0, 1) := by decide +kernel
theorem dX10_goBack_56 : decode cX10_goBack 56 = .ok (.getfield 16, 3) := by decide +kernel
theorem dX10_goBack_59 : decode cX10_goBack 59 = .ok (.bipush 49, 2) := by decide +kernel
theorem dX10_goBack_61 : decode cX10_goBack 61 = .ok (.iload_n 1, 1) := by decide +kernel
theorem dX10_goBack_62 : decode cX10_goBack 62 = .ok (.imul, 1) := by decide +kernel
theorem dX10_goBack_63 : decode cX10_goBack 63 = .ok (.iload_n 2, 1) := by decide +kernel
theorem dX10_goBack_64 : decode cX10_goBack 64 = .ok (.iadd, 1) := by decide +kernel
theorem dX10_goBack_65 : decode cX10_goBack 65 = .ok (.iaload, 1) := by decide +kernel
theorem dX10_goBack_66 : decode cX10_goBack 66 = .ok (.iastore, 1) := by decide +kernel
theorem dX10_goBack_67 : decode cX10_goBack 67 = .ok (.iinc 2 1, 3) := by decide +kernel
theorem dX10_goBack_70 : decode cX10_goBack 70 = .ok (.goto (-26), 3) := by decide +kernel
theorem dX10_goBack_73 : decode cX10_goBack 73 = .ok (.return_, 1) := by decide +kernel
theorem dX10_undo_0 : decode cX10_undo 0 = .ok (.aload_n 0, 1) := by decide +kernel
theorem dX10_undo_1 : decode cX10_undo 1 = .ok (.aload_n 0, 1) := by decide +kernel
theorem dX10_undo_2 : decode cX10_undo 2 = .ok (.getfield 52, 3) := by decide +kernel
theorem dX10_undo_5 : decode cX10_undo 5 = .ok (.ifCond .ne 7, 3) := by decide +kernel
theorem dX10_undo_8 : decode cX10_undo 8 = .ok (.iconst 1, 1) := by decide +kernel
theorem dX10_undo_9 : decode cX10_undo 9 = .ok (.goto 4, 3) := by decide +kernel
theorem dX10_undo_12 : decode cX10_undo 12 = .ok (.iconst 0, 1) := by decide +kernel
theorem dX10_undo_13 : decode cX10_undo 13 = .ok (.putfield 44, 3) := by decide +kernel
theorem dX10_undo_16 : decode cX10_undo 16 = .ok (.aload_n 0, 1) := by decide +kernel
theorem dX10_undo_17 : decode cX10_undo 17 = .ok (.getfield 44, 3) := by decide +kernel
theorem dX10_undo_20 : decode cX10_undo 20 = .ok (.ifCond .ne 47, 3) := by decide +kernel
theorem dX10_undo_23 : decode cX10_undo 23 = .ok (.aload_n 0, 1) := by decide +kernel
theorem dX10_undo_24 : decode cX10_undo 24 = .ok (.dup, 1) := by decide +kernel
theorem dX10_undo_25 : decode cX10_undo 25 = .ok (.getfield 52, 3) := by decide +kernel
theorem dX10_undo_28 : decode cX10_undo 28 = .ok (.iconst 1, 1) := by decide +kernel
theorem dX10_undo_29 : decode cX10_undo 29 = .ok (.isub, 1) := by decide +kernel
theorem dX10_undo_30 : decode cX10_undo 30 = .ok (.putfield 52, 3) := by decide +kernel
theorem dX10_undo_33 : decode cX10_undo 33 = .ok (.iconst 0, 1) := by decide +kernel
theorem dX10_undo_34 : decode cX10_undo 34 = .ok (.istore_n 1, 1) := by decide +kernel
theorem dX10_undo_35 : decode cX10_undo 35 = .ok (.iload_n 1, 1) := by decide +kernel
theorem dX10_undo_36 : decode cX10_undo 36 = .ok (.bipush 49, 2) := by decide +kernel
theorem dX10_undo_38 : decode cX10_undo 38 = .ok (.if_icmp .ge 29, 3) := by decide +kernel
theorem dX10_undo_41 : decode cX10_undo 41 = .ok (.aload_n 0, 1) := by decide +kernel
theorem dX10_undo_42 : decode cX10_undo 42 = .ok (.getfield 7, 3) := by decide +kernel
theorem dX10_undo_45 : decode cX10_undo 45 = .ok (.iload_n 1, 1) := by decide +kernel
theorem dX10_undo_46 : decode cX10_undo 46 = .ok (.aload_n 0, 1) := by decide +kernel
theorem dX10_undo_47 : decode cX10_undo 47 = .ok (.getfield 13, 3) := by decide +kernel
theorem dX10_undo_50 : decode cX10_undo 50 = .ok (.bipush 49, 2) := by decide +kernel
theorem dX10_undo_52 : decode cX10_undo 52 = .ok (.aload_n 0, 1) := by decide +kernel
theorem dX10_undo_53 : decode cX10_undo 53 = .ok (.getfield 52, 3) := by decide +kernel
theorem dX10_undo_56 : decode cX10_undo 56 = .ok (.imul, 1) := by decide +kernel
theorem dX10_undo_57 : decode cX10_undo 57 = .ok (.iload_n 1, 1) := by decide +kernel
theorem dX10_undo_58 : decode cX10_undo 58 = .ok (.iadd, 1) := by decide +kernel
theorem dX10_undo_59 : decode cX10_undo 59 = .ok (.iaload, 1) := by decide +kernel
theorem dX10_undo_60 : decode cX10_undo 60 = .ok (.iastore, 1) := by decide +kernel
theorem dX10_undo_61 : decode cX10_undo 61 = .ok (.iinc 1 1, 3) := by decide +kernel
theorem dX10_undo_64 : decode cX10_undo 64 = .ok (.goto (-29), 3) := by decide +kernel
theorem dX10_undo_67 : decode cX10_undo 67 = .ok (.return_, 1) := by decide +kernel
theorem dX10_savedStates_0 : decode cX10_savedStates 0 = .ok (.aload_n 0, 1) := by decide +kernel
theorem dX10_savedStates_1 : decode cX10_savedStates 1 = .ok (.iconst 0, 1) := by decide +kernel
theorem dX10_savedStates_2 : decode cX10_savedStates 2 = .ok (.putfield 44, 3) := by decide +kernel
theorem dX10_savedStates_5 : decode cX10_savedStates 5 = .ok (.aload_n 0, 1) := by decide +kernel
theorem dX10_savedStates_6 : decode cX10_savedStates 6 = .ok (.getfield 52, 3) := by decide +kernel
theorem dX10_savedStates_9 : decode cX10_savedStates 9 = .ok (.ireturn, 1) := by decide +kernel
theorem dX10_isThere_0 : decode cX10_isThere 0 = .ok (.aload_n 0, 1) := by decide +kernel
theorem dX10_isThere_1 : decode cX10_isThere 1 = .ok (.iload_n 1, 1) := by decide +kernel
theorem dX10_isThere_2 : decode cX10_isThere 2 = .ok (.iload_n 2, 1) := by decide +kernel
theorem dX10_isThere_3 : decode cX10_isThere 3 = .ok (.invokestatic 55, 3) := by decide +kernel
theorem dX10_isThere_6 : decode cX10_isThere 6 = .ok (.ifCond .eq 7, 3) := by decide +kernel
theorem dX10_isThere_9 : decode cX10_isThere 9 = .ok (.iconst 0, 1) := by decide +kernel
theorem dX10_isThere_10 : decode cX10_isThere 10 = .ok (.goto 4, 3) := by decide +kernel
theorem dX10_isThere_13 : decode cX10_isThere 13 = .ok (.iconst 1, 1) := by decide +kernel
theorem dX10_isThere_14 : decode cX10_isThere 14 = .ok (.putfield 44, 3) := by decide +kernel
theorem dX10_isThere_17 : decode cX10_isThere 17 = .ok (.aload_n 0, 1) := by decide +kernel
theorem dX10_isThere_18 : decode cX10_isThere 18 = .ok (.getfield 44, 3) := by decide +kernel
theorem dX10_isThere_21 : decode cX10_isThere 21 = .ok (.ifCond .ne 7, 3) := by decide +kernel
theorem dX10_isThere_24 : decode cX10_isThere 24 = .ok (.iconst 1, 1) := by decide +kernel
theorem dX10_isThere_25 : decode cX10_isThere 25 = .ok (.goto 4, 3) := by decide +kernel
theorem dX10_isThere_28 : decode cX10_isThere 28 = .ok (.iconst 0, 1) := by decide +kernel
theorem dX10_isThere_29 : decode cX10_isThere 29 = .ok (.ireturn, 1) := by decide +kernel
theorem dX10_isLevel_0 : decode cX10_isLevel 0 = .ok (.aload_n 0, 1) := by decide +kernel
theorem dX10_isLevel_1 : decode cX10_isLevel 1 = .ok (.iload_n 1, 1) := by decide +kernel
theorem dX10_isLevel_2 : decode cX10_isLevel 2 = .ok (.iconst 0, 1) := by decide +kernel
theorem dX10_isLevel_3 : decode cX10_isLevel 3 = .ok (.bipush 98, 2) := by decide +kernel
theorem dX10_isLevel_5 : decode cX10_isLevel 5 = .ok (.invokestatic 48, 3) := by decide +kernel
theorem dX10_isLevel_8 : decode cX10_isLevel 8 = .ok (.ifCond .eq 7, 3) := by decide +kernel
theorem dX10_isLevel_11 : decode cX10_isLevel 11 = .ok (.iconst 0, 1) := by decide +kernel
theorem dX10_isLevel_12 : decode cX10_isLevel 12 = .ok (.goto 4, 3) := by decide +kernel
theorem dX10_isLevel_15 : decode cX10_isLevel 15 = .ok (.iconst 1, 1) := by decide +kernel
theorem dX10_isLevel_16 : decode cX10_isLevel 16 = .ok (.putfield 44, 3) := by decide +kernel
theorem dX10_isLevel_19 : decode cX10_isLevel 19 = .ok (.aload_n 0, 1) := by decide +kernel
theorem dX10_isLevel_20 : decode cX10_isLevel 20 = .ok (.getfield 44, 3) := by decide +kernel
theorem dX10_isLevel_23 : decode cX10_isLevel 23 = .ok (.ifCond .ne 7, 3) := by decide +kernel
theorem dX10_isLevel_26 : decode cX10_isLevel 26 = .ok (.iconst 1, 1) := by decide +kernel
theorem dX10_isLevel_27 : decode cX10_isLevel 27 = .ok (.goto 4, 3) := by decide +kernel
theorem dX10_isLevel_30 : decode cX10_isLevel 30 = .ok (.iconst 0, 1) := by decide +kernel
theorem dX10_isLevel_31 : decode cX10_isLevel 31 = .ok (.ireturn, 1) := by decide +kernel
theorem dX10_heightOf_0 : decode cX10_heightOf 0 = .ok (.aload_n 0, 1) := by decide +kernel
theorem dX10_heightOf_1 : decode cX10_heightOf 1 = .ok (.iload_n 1, 1) := by decide +kernel
theorem dX10_heightOf_2 : decode cX10_heightOf 2 = .ok (.iload_n 2, 1) := by decide +kernel
theorem dX10_heightOf_3 : decode cX10_heightOf 3 = .ok (.invokevirtual 120, 3) := by decide +kernel
theorem dX10_heightOf_6 : decode cX10_heightOf 6 = .ok (.ifCond .eq 17, 3) := by decide +kernel
theorem dX10_heightOf_9 : decode cX10_heightOf 9 = .ok (.aload_n 0, 1) := by decide +kernel
theorem dX10_heightOf_10 : decode cX10_heightOf 10 = .ok (.getfield 7, 3) := by decide +kernel
theorem dX10_heightOf_13 : decode cX10_heightOf 13 = .ok (.bipush 7, 2) := by decide +kernel
theorem dX10_heightOf_15 : decode cX10_heightOf 15 = .ok (.iload_n 1, 1) := by decide +kernel
theorem dX10_heightOf_16 : decode cX10_heightOf 16 = .ok (.imul, 1) := by decide +kernel
theorem dX10_heightOf_17 : decode cX10_heightOf 17 = .ok (.iload_n 2, 1) := by decide +kernel
theorem dX10_heightOf_18 : decode cX10_heightOf 18 = .ok (.iadd, 1) := by decide +kernel
theorem dX10_heightOf_19 : decode cX10_heightOf 19 = .ok (.iaload, 1) := by decide +kernel
theorem dX10_heightOf_20 : decode cX10_heightOf 20 = .ok (.goto 4, 3) := by decide +kernel
theorem dX10_heightOf_23 : decode cX10_heightOf 23 = .ok (.iconst 0, 1) := by decide +kernel
theorem dX10_heightOf_24 : decode cX10_heightOf 24 = .ok (.ireturn, 1) := by decide +kernel
theorem dX10_highest_0 : decode cX10_highest 0 = .ok (.iconst 0, 1) := by decide +kernel
theorem dX10_highest_1 : decode cX10_highest 1 = .ok (.istore_n 1, 1) := by decide +kernel
theorem dX10_highest_2 : decode cX10_highest 2 = .ok (.iconst 1, 1) := by decide +kernel
theorem dX10_highest_3 : decode cX10_highest 3 = .ok (.istore_n 2, 1) := by decide +kernel
theorem dX10_highest_4 : decode cX10_highest 4 = .ok (.iload_n 2, 1) := by decide +kernel
theorem dX10_highest_5 : decode cX10_highest 5 = .ok (.bipush 49, 2) := by decide +kernel
theorem dX10_highest_7 : decode cX10_highest 7 = .ok (.if_icmp .ge 30, 3) := by decide +kernel
theorem dX10_highest_10 : decode cX10_highest 10 = .ok (.aload_n 0, 1) := by decide +kernel
theorem dX10_highest_11 : decode cX10_highest 11 = .ok (.getfield 7, 3) := by decide +kernel
theorem dX10_highest_14 : decode cX10_highest 14 = .ok (.iload_n 2, 1) := by decide +kernel
theorem dX10_highest_15 : decode cX10_highest 15 = .ok (.iaload, 1) := by decide +kernel
theorem dX10_highest_16 : decode cX10_highest 16 = .ok (.aload_n 0, 1) := by decide +kernel
theorem dX10_highest_17 : decode cX10_highest 17 = .ok (.getfield 7, 3) := by decide +kernel
theorem dX10_highest_20 : decode cX10_highest 20 = .ok (.iload_n 1, 1) := by decide +kernel
theorem dX10_highest_21 : decode cX10_highest 21 = .ok (.iaload, 1) := by decide +kernel
theorem dX10_highest_22 : decode cX10_highest 22 = .ok (.if_icmp .le 7, 3) := by decide +kernel
theorem dX10_highest_25 : decode cX10_highest 25 = .ok (.iload_n 2, 1) := by decide +kernel
theorem dX10_highest_26 : decode cX10_highest 26 = .ok (.goto 4, 3) := by decide +kernel
theorem dX10_highest_29 : decode cX10_highest 29 = .ok (.iload_n 1, 1) := by decide +kernel
theorem dX10_highest_30 : decode cX10_highest 30 = .ok (.istore_n 1, 1) := by decide +kernel
theorem dX10_highest_31 : decode cX10_highest 31 = .ok (.iinc 2 1, 3) := by decide +kernel
theorem dX10_highest_34 : decode cX10_highest 34 = .ok (.goto (-30), 3) := by decide +kernel
theorem dX10_highest_37 : decode cX10_highest 37 = .ok (.iload_n 1, 1) := by decide +kernel
theorem dX10_highest_38 : decode cX10_highest 38 = .ok (.ireturn, 1) := by decide +kernel
theorem dX10_summit_0 : decode cX10_summit 0 = .ok (.aload_n 0, 1) := by decide +kernel
theorem dX10_summit_1 : decode cX10_summit 1 = .ok (.iconst 0, 1) := by decide +kernel
theorem dX10_summit_2 : decode cX10_summit 2 = .ok (.putfield 44, 3) := by decide +kernel
theorem dX10_summit_5 : decode cX10_summit 5 = .ok (.aload_n 0, 1) := by decide +kernel
theorem dX10_summit_6 : decode cX10_summit 6 = .ok (.invokevirtual 123, 3) := by decide +kernel
theorem dX10_summit_9 : decode cX10_summit 9 = .ok (.ireturn, 1) := by decide +kernel
theorem dX10_sum_0 : decode cX10_sum 0 = .ok (.iconst 0, 1) := by decide +kernel
theorem dX10_sum_1 : decode cX10_sum 1 = .ok (.istore_n 1, 1) := by decide +kernel
theorem dX10_sum_2 : decode cX10_sum 2 = .ok (.iconst 0, 1) := by decide +kernel
theorem dX10_sum_3 : decode cX10_sum 3 = .ok (.istore_n 2, 1) := by decide +kernel
theorem dX10_sum_4 : decode cX10_sum 4 = .ok (.iload_n 2, 1) := by decide +kernel
theorem dX10_sum_5 : decode cX10_sum 5 = .ok (.bipush 49, 2) := by decide +kernel
theorem dX10_sum_7 : decode cX10_sum 7 = .ok (.if_icmp .ge 18, 3) := by decide +kernel
theorem dX10_sum_10 : decode cX10_sum 10 = .ok (.iload_n 1, 1) := by decide +kernel
theorem dX10_sum_11 : decode cX10_sum 11 = .ok (.aload_n 0, 1) := by decide +kernel
theorem dX10_sum_12 : decode cX10_sum 12 = .ok (.getfield 7, 3) := by decide +kernel
theorem dX10_sum_15 : decode cX10_sum 15 = .ok (.iload_n 2, 1) := by decide +kernel
theorem dX10_sum_16 : decode cX10_sum 16 = .ok (.iaload, 1) := by decide +kernel
theorem dX10_sum_17 : decode cX10_sum 17 = .ok (.iadd, 1) := by decide +kernel
theorem dX10_sum_18 : decode cX10_sum 18 = .ok (.istore_n 1, 1) := by decide +kernel
theorem dX10_sum_19 : decode cX10_sum 19 = .ok (.iinc 2 1, 3) := by decide +kernel
theorem dX10_sum_22 : decode cX10_sum 22 = .ok (.goto (-18), 3) := by decide +kernel
theorem dX10_sum_25 : decode cX10_sum 25 = .ok (.iload_n 1, 1) := by decide +kernel
theorem dX10_sum_26 : decode cX10_sum 26 = .ok (.ireturn, 1) := by decide +kernel
theorem dX10_bulk_0 : decode cX10_bulk 0 = .ok (.aload_n 0, 1) := by decide +kernel
theorem dX10_bulk_1 : decode cX10_bulk 1 = .ok (.iconst 0, 1) := by decide +kernel
theorem dX10_bulk_2 : decode cX10_bulk 2 = .ok (.putfield 44, 3) := by decide +kernel
theorem dX10_bulk_5 : decode cX10_bulk 5 = .ok (.aload_n 0, 1) := by decide +kernel
theorem dX10_bulk_6 : decode cX10_bulk 6 = .ok (.invokevirtual 126, 3) := by decide +kernel
theorem dX10_bulk_9 : decode cX10_bulk 9 = .ok (.ireturn, 1) := by decide +kernel
theorem dX10_isAbove_0 : decode cX10_isAbove 0 = .ok (.aload_n 0, 1) := by decide +kernel
theorem dX10_isAbove_1 : decode cX10_isAbove 1 = .ok (.getfield 7, 3) := by decide +kernel
theorem dX10_isAbove_4 : decode cX10_isAbove 4 = .ok (.iload_n 1, 1) := by decide +kernel
theorem dX10_isAbove_5 : decode cX10_isAbove 5 = .ok (.iaload, 1) := by decide +kernel
theorem dX10_isAbove_6 : decode cX10_isAbove 6 = .ok (.iload_n 2, 1) := by decide +kernel
theorem dX10_isAbove_7 : decode cX10_isAbove 7 = .ok (.if_icmp .le 7, 3) := by decide +kernel
theorem dX10_isAbove_10 : decode cX10_isAbove 10 = .ok (.iconst 1, 1) := by decide +kernel
theorem dX10_isAbove_11 : decode cX10_isAbove 11 = .ok (.goto 4, 3) := by decide +kernel
theorem dX10_isAbove_14 : decode cX10_isAbove 14 = .ok (.iconst 0, 1) := by decide +kernel
theorem dX10_isAbove_15 : decode cX10_isAbove 15 = .ok (.ireturn, 1) := by decide +kernel
theorem dX10_above_0 : decode cX10_above 0 = .ok (.iconst 0, 1) := by decide +kernel
theorem dX10_above_1 : decode cX10_above 1 = .ok (.istore_n 2, 1) := by decide +kernel
theorem dX10_above_2 : decode cX10_above 2 = .ok (.iconst 0, 1) := by decide +kernel
theorem dX10_above_3 : decode cX10_above 3 = .ok (.istore_n 3, 1) := by decide +kernel
theorem dX10_above_4 : decode cX10_above 4 = .ok (.iload_n 3, 1) := by decide +kernel
theorem dX10_above_5 : decode cX10_above 5 = .ok (.bipush 49, 2) := by decide +kernel
theorem dX10_above_7 : decode cX10_above 7 = .ok (.if_icmp .ge 26, 3) := by decide +kernel
theorem dX10_above_10 : decode cX10_above 10 = .ok (.iload_n 2, 1) := by decide +kernel
theorem dX10_above_11 : decode cX10_above 11 = .ok (.aload_n 0, 1) := by decide +kernel
theorem dX10_above_12 : decode cX10_above 12 = .ok (.iload_n 3, 1) := by decide +kernel
theorem dX10_above_13 : decode cX10_above 13 = .ok (.iload_n 1, 1) := by decide +kernel
theorem dX10_above_14 : decode cX10_above 14 = .ok (.invokevirtual 129, 3) := by decide +kernel
theorem dX10_above_17 : decode cX10_above 17 = .ok (.ifCond .eq 7, 3) := by decide +kernel
theorem dX10_above_20 : decode cX10_above 20 = .ok (.iconst 1, 1) := by decide +kernel
theorem dX10_above_21 : decode cX10_above 21 = .ok (.goto 4, 3) := by decide +kernel
theorem dX10_above_24 : decode cX10_above 24 = .ok (.iconst 0, 1) := by decide +kernel
theorem dX10_above_25 : decode cX10_above 25 = .ok (.iadd, 1) := by decide +kernel
theorem dX10_above_26 : decode cX10_above 26 = .ok (.istore_n 2, 1) := by decide +kernel
theorem dX10_above_27 : decode cX10_above 27 = .ok (.iinc 3 1, 3) := by decide +kernel
theorem dX10_above_30 : decode cX10_above 30 = .ok (.goto (-26), 3) := by decide +kernel
theorem dX10_above_33 : decode cX10_above 33 = .ok (.iload_n 2, 1) := by decide +kernel
theorem dX10_above_34 : decode cX10_above 34 = .ok (.ireturn, 1) := by decide +kernel
theorem dX10_pointsAbove_0 : decode cX10_pointsAbove 0 = .ok (.aload_n 0, 1) := by decide +kernel
theorem dX10_pointsAbove_1 : decode cX10_pointsAbove 1 = .ok (.iload_n 1, 1) := by decide +kernel
theorem dX10_pointsAbove_2 : decode cX10_pointsAbove 2 = .ok (.invokevirtual 132, 3) := by decide +kernel
theorem dX10_pointsAbove_5 : decode cX10_pointsAbove 5 = .ok (.ifCond .eq 11, 3) := by decide +kernel
theorem dX10_pointsAbove_8 : decode cX10_pointsAbove 8 = .ok (.aload_n 0, 1) := by decide +kernel
theorem dX10_pointsAbove_9 : decode cX10_pointsAbove 9 = .ok (.iload_n 1, 1) := by decide +kernel
theorem dX10_pointsAbove_10 : decode cX10_pointsAbove 10 = .ok (.invokevirtual 136, 3) := by decide +kernel
theorem dX10_pointsAbove_13 : decode cX10_pointsAbove 13 = .ok (.goto 4, 3) := by decide +kernel
theorem dX10_pointsAbove_16 : decode cX10_pointsAbove 16 = .ok (.iconst 0, 1) := by decide +kernel
theorem dX10_pointsAbove_17 : decode cX10_pointsAbove 17 = .ok (.ireturn, 1) := by decide +kernel
theorem dX10_sumAbove_0 : decode cX10_sumAbove 0 = .ok (.iconst 0, 1) := by decide +kernel
theorem dX10_sumAbove_1 : decode cX10_sumAbove 1 = .ok (.istore_n 2, 1) := by decide +kernel
theorem dX10_sumAbove_2 : decode cX10_sumAbove 2 = .ok (.iconst 0, 1) := by decide +kernel
theorem dX10_sumAbove_3 : decode cX10_sumAbove 3 = .ok (.istore_n 3, 1) := by decide +kernel
theorem dX10_sumAbove_4 : decode cX10_sumAbove 4 = .ok (.iload_n 3, 1) := by decide +kernel
theorem dX10_sumAbove_5 : decode cX10_sumAbove 5 = .ok (.bipush 49, 2) := by decide +kernel
theorem dX10_sumAbove_7 : decode cX10_sumAbove 7 = .ok (.if_icmp .ge 33, 3) := by decide +kernel
theorem dX10_sumAbove_10 : decode cX10_sumAbove 10 = .ok (.iload_n 2, 1) := by decide +kernel
theorem dX10_sumAbove_11 : decode cX10_sumAbove 11 = .ok (.aload_n 0, 1) := by decide +kernel
theorem dX10_sumAbove_12 : decode cX10_sumAbove 12 = .ok (.iload_n 3, 1) := by decide +kernel
theorem dX10_sumAbove_13 : decode cX10_sumAbove 13 = .ok (.iload_n 1, 1) := by decide +kernel
theorem dX10_sumAbove_14 : decode cX10_sumAbove 14 = .ok (.invokevirtual 129, 3) := by decide +kernel
theorem dX10_sumAbove_17 : decode cX10_sumAbove 17 = .ok (.ifCond .eq 14, 3) := by decide +kernel
theorem dX10_sumAbove_20 : decode cX10_sumAbove 20 = .ok (.aload_n 0, 1) := by decide +kernel
theorem dX10_sumAbove_21 : decode cX10_sumAbove 21 = .ok (.getfield 7, 3) := by decide +kernel
theorem dX10_sumAbove_24 : decode cX10_sumAbove 24 = .ok (.iload_n 3, 1) := by decide +kernel
theorem dX10_sumAbove_25 : decode cX10_sumAbove 25 = .ok (.iaload, 1) := by decide +kernel
theorem dX10_sumAbove_26 : decode cX10_sumAbove 26 = .ok (.iload_n 1, 1) := by decide +kernel
theorem dX10_sumAbove_27 : decode cX10_sumAbove 27 = .ok (.isub, 1) := by decide +kernel
theorem dX10_sumAbove_28 : decode cX10_sumAbove 28 = .ok (.goto 4, 3) := by decide +kernel
theorem dX10_sumAbove_31 : decode cX10_sumAbove 31 = .ok (.iconst 0, 1) := by decide +kernel
theorem dX10_sumAbove_32 : decode cX10_sumAbove 32 = .ok (.iadd, 1) := by decide +kernel
theorem dX10_sumAbove_33 : decode cX10_sumAbove 33 = .ok (.istore_n 2, 1) := by decide +kernel
theorem dX10_sumAbove_34 : decode cX10_sumAbove 34 = .ok (.iinc 3 1, 3) := by decide +kernel
theorem dX10_sumAbove_37 : decode cX10_sumAbove 37 = .ok (.goto (-33), 3) := by decide +kernel
theorem dX10_sumAbove_40 : decode cX10_sumAbove 40 = .ok (.iload_n 2, 1) := by decide +kernel
theorem dX10_sumAbove_41 : decode cX10_sumAbove 41 = .ok (.ireturn, 1) := by decide +kernel
theorem dX10_bulkAbove_0 : decode cX10_bulkAbove 0 = .ok (.aload_n 0, 1) := by decide +kernel
theorem dX10_bulkAbove_1 : decode cX10_bulkAbove 1 = .ok (.iload_n 1, 1) := by decide +kernel
theorem dX10_bulkAbove_2 : decode cX10_bulkAbove 2 = .ok (.invokevirtual 132, 3) := by decide +kernel
theorem dX10_bulkAbove_5 : decode cX10_bulkAbove 5 = .ok (.ifCond .eq 11, 3) := by decide +kernel
theorem dX10_bulkAbove_8 : decode cX10_bulkAbove 8 = .ok (.aload_n 0, 1) := by decide +kernel
theorem dX10_bulkAbove_9 : decode cX10_bulkAbove 9 = .ok (.iload_n 1, 1) := by decide +kernel
theorem dX10_bulkAbove_10 : decode cX10_bulkAbove 10 = .ok (.invokevirtual 139, 3) := by decide +kernel
theorem dX10_bulkAbove_13 : decode cX10_bulkAbove 13 = .ok (.goto 4, 3) := by decide +kernel
theorem dX10_bulkAbove_16 : decode cX10_bulkAbove 16 = .ok (.iconst 0, 1) := by decide +kernel
theorem dX10_bulkAbove_17 : decode cX10_bulkAbove 17 = .ok (.ireturn, 1) := by decide +kernel
theorem dX10_right_0 : decode cX10_right 0 = .ok (.bipush 6, 2) := by decide +kernel
theorem dX10_right_2 : decode cX10_right 2 = .ok (.iload_n 0, 1) := by decide +kernel
theorem dX10_right_3 : decode cX10_right 3 = .ok (.imul, 1) := by decide +kernel
theorem dX10_right_4 : decode cX10_right 4 = .ok (.iload_n 1, 1) := by decide +kernel
theorem dX10_right_5 : decode cX10_right 5 = .ok (.iadd, 1) := by decide +kernel
theorem dX10_right_6 : decode cX10_right 6 = .ok (.ireturn, 1) := by decide +kernel
theorem dX10_below_0 : decode cX10_below 0 = .ok (.bipush 42, 2) := by decide +kernel
theorem dX10_below_2 : decode cX10_below 2 = .ok (.bipush 7, 2) := by decide +kernel
theorem dX10_below_4 : decode cX10_below 4 = .ok (.iload_n 0, 1) := by decide +kernel
theorem dX10_below_5 : decode cX10_below 5 = .ok (.imul, 1) := by decide +kernel
theorem dX10_below_6 : decode cX10_below 6 = .ok (.iadd, 1) := by decide +kernel
theorem dX10_below_7 : decode cX10_below 7 = .ok (.iload_n 1, 1) := by decide +kernel
theorem dX10_below_8 : decode cX10_below 8 = .ok (.iadd, 1) := by decide +kernel
theorem dX10_below_9 : decode cX10_below 9 = .ok (.ireturn, 1) := by decide +kernel
theorem dX10_isCrossed_0 : decode cX10_isCrossed 0 = .ok (.aload_n 0, 1) := by decide +kernel
theorem dX10_isCrossed_1 : decode cX10_isCrossed 1 = .ok (.iload_n 1, 1) := by decide +kernel
theorem dX10_isCrossed_2 : decode cX10_isCrossed 2 = .ok (.iload_n 3, 1) := by decide +kernel
theorem dX10_isCrossed_3 : decode cX10_isCrossed 3 = .ok (.invokevirtual 129, 3) := by decide +kernel
theorem dX10_isCrossed_6 : decode cX10_isCrossed 6 = .ok (.aload_n 0, 1) := by decide +kernel
theorem dX10_isCrossed_7 : decode cX10_isCrossed 7 = .ok (.iload_n 2, 1) := by decide +kernel
theorem dX10_isCrossed_8 : decode cX10_isCrossed 8 = .ok (.iload_n 3, 1) := by decide +kernel
theorem dX10_isCrossed_9 : decode cX10_isCrossed 9 = .ok (.invokevirtual 129, 3) := by decide +kernel
theorem dX10_isCrossed_12 : decode cX10_isCrossed 12 = .ok (.if_icmp .eq 7, 3) := by decide +kernel
theorem dX10_isCrossed_15 : decode cX10_isCrossed 15 = .ok (.iconst 1, 1) := by decide +kernel
theorem dX10_isCrossed_16 : decode cX10_isCrossed 16 = .ok (.goto 4, 3) := by decide +kernel
theorem dX10_isCrossed_19 : decode cX10_isCrossed 19 = .ok (.iconst 0, 1) := by decide +kernel
theorem dX10_isCrossed_20 : decode cX10_isCrossed 20 = .ok (.ireturn, 1) := by decide +kernel
theorem dX10_joins_0 : decode cX10_joins 0 = .ok (.aload_n 0, 1) := by decide +kernel
theorem dX10_joins_1 : decode cX10_joins 1 = .ok (.getfield 29, 3) := by decide +kernel
theorem dX10_joins_4 : decode cX10_joins 4 = .ok (.iload_n 1, 1) := by decide +kernel
theorem dX10_joins_5 : decode cX10_joins 5 = .ok (.iaload, 1) := by decide +kernel
theorem dX10_joins_6 : decode cX10_joins 6 = .ok (.istore_n 3, 1) := by decide +kernel
theorem dX10_joins_7 : decode cX10_joins 7 = .ok (.aload_n 0, 1) := by decide +kernel
theorem dX10_joins_8 : decode cX10_joins 8 = .ok (.getfield 29, 3) := by decide +kernel
theorem dX10_joins_11 : decode cX10_joins 11 = .ok (.iload_n 2, 1) := by decide +kernel
theorem dX10_joins_12 : decode cX10_joins 12 = .ok (.iaload, 1) := by decide +kernel
theorem dX10_joins_13 : decode cX10_joins 13 = .ok (.istore 4, 2) := by decide +kernel
theorem dX10_joins_15 : decode cX10_joins 15 = .ok (.iconst 0, 1) := by decide +kernel
theorem dX10_joins_16 : decode cX10_joins 16 = .ok (.istore 5, 2) := by decide +kernel
theorem dX10_joins_18 : decode cX10_joins 18 = .ok (.iload 5, 2) := by decide +kernel
theorem dX10_joins_20 : decode cX10_joins 20 = .ok (.bipush 84, 2) := by decide +kernel
theorem dX10_joins_22 : decode cX10_joins 22 = .ok (.if_icmp .ge 61, 3) := by decide +kernel
theorem dX10_joins_25 : decode cX10_joins 25 = .ok (.aload_n 0, 1) := by decide +kernel
theorem dX10_joins_26 : decode cX10_joins 26 = .ok (.getfield 29, 3) := by decide +kernel
theorem dX10_joins_29 : decode cX10_joins 29 = .ok (.iload 5, 2) := by decide +kernel
theorem dX10_joins_31 : decode cX10_joins 31 = .ok (.aload_n 0, 1) := by decide +kernel
theorem dX10_joins_32 : decode cX10_joins 32 = .ok (.getfield 29, 3) := by decide +kernel
theorem dX10_joins_35 : decode cX10_joins 35 = .ok (.iload 5, 2) := by decide +kernel
theorem dX10_joins_37 : decode cX10_joins 37 = .ok (.iaload, 1) := by decide +kernel
theorem dX10_joins_38 : decode cX10_joins 38 = .ok (.iload_n 3, 1) := by decide +kernel
theorem dX10_joins_39 : decode cX10_joins 39 = .ok (.if_icmp .eq 15, 3) := by decide +kernel
theorem dX10_joins_42 : decode cX10_joins 42 = .ok (.aload_n 0, 1) := by decide +kernel
theorem dX10_joins_43 : decode cX10_joins 43 = .ok (.getfield 29, 3) := by decide +kernel
theorem dX10_joins_46 : decode cX10_joins 46 = .ok (.iload 5, 2) := by decide +kernel
theorem dX10_joins_48 : decode cX10_joins 48 = .ok (.iaload, 1) := by decide +kernel
theorem dX10_joins_49 : decode cX10_joins 49 = .ok (.iload 4, 2) := by decide +kernel
theorem dX10_joins_51 : decode cX10_joins 51 = .ok (.if_icmp .ne 18, 3) := by decide +kernel
theorem dX10_joins_54 : decode cX10_joins 54 = .ok (.iload_n 3, 1) := by decide +kernel
theorem dX10_joins_55 : decode cX10_joins 55 = .ok (.iload 4, 2) := by decide +kernel
theorem dX10_joins_57 : decode cX10_joins 57 = .ok (.if_icmp .ge 7, 3) := by decide +kernel
theorem dX10_joins_60 : decode cX10_joins 60 = .ok (.iload_n 3, 1) := by decide +kernel
theorem dX10_joins_61 : decode cX10_joins 61 = .ok (.goto 15, 3) := by decide +kernel
theorem dX10_joins_64 : decode cX10_joins 64 = .ok (.iload 4, 2) := by decide +kernel
theorem dX10_joins_66 : decode cX10_joins 66 = .ok (.goto 10, 3) := by decide +kernel
theorem dX10_joins_69 : decode cX10_joins 69 = .ok (.aload_n 0, 1) := by decide +kernel
theorem dX10_joins_70 : decode cX10_joins 70 = .ok (.getfield 29, 3) := by decide +kernel
theorem dX10_joins_73 : decode cX10_joins 73 = .ok (.iload 5, 2) := by decide +kernel
theorem dX10_joins_75 : decode cX10_joins 75 = .ok (.iaload, 1) := by decide +kernel
theorem dX10_joins_76 : decode cX10_joins 76 = .ok (.iastore, 1) := by decide +kernel
theorem dX10_joins_77 : decode cX10_joins 77 = .ok (.iinc 5 1, 3) := by decide +kernel
theorem dX10_joins_80 : decode cX10_joins 80 = .ok (.goto (-62), 3) := by decide +kernel
theorem dX10_joins_83 : decode cX10_joins 83 = .ok (.return_, 1) := by decide +kernel
theorem dX10_piecesAt_0 : decode cX10_piecesAt 0 = .ok (.bipush 7, 2) := by decide +kernel
theorem dX10_piecesAt_2 : decode cX10_piecesAt 2 = .ok (.iload_n 1, 1) := by decide +kernel
theorem dX10_piecesAt_3 : decode cX10_piecesAt 3 = .ok (.imul, 1) := by decide +kernel
theorem dX10_piecesAt_4 : decode cX10_piecesAt 4 = .ok (.iload_n 2, 1) := by decide +kernel
theorem dX10_piecesAt_5 : decode cX10_piecesAt 5 = .ok (.iadd, 1) := by decide +kernel
theorem dX10_piecesAt_6 : decode cX10_piecesAt 6 = .ok (.istore 4, 2) := by decide +kernel
theorem dX10_piecesAt_8 : decode cX10_piecesAt 8 = .ok (.aload_n 0, 1) := by decide +kernel
theorem dX10_piecesAt_9 : decode cX10_piecesAt 9 = .ok (.iload 4, 2) := by decide +kernel
theorem dX10_piecesAt_11 : decode cX10_piecesAt 11 = .ok (.iload 4, 2) := by decide +kernel
theorem dX10_piecesAt_13 : decode cX10_piecesAt 13 = .ok (.iconst 1, 1) := by decide +kernel
theorem dX10_piecesAt_14 : decode cX10_piecesAt 14 = .ok (.iadd, 1) := by decide +kernel
theorem dX10_piecesAt_15 : decode cX10_piecesAt 15 = .ok (.iload_n 3, 1) := by decide +kernel
theorem dX10_piecesAt_16 : decode cX10_piecesAt 16 = .ok (.invokevirtual 142, 3) := by decide +kernel
theorem dX10_piecesAt_19 : decode cX10_piecesAt 19 = .ok (.ifCond .eq 7, 3) := by decide +kernel
theorem dX10_piecesAt_22 : decode cX10_piecesAt 22 = .ok (.iconst 1, 1) := by decide +kernel
theorem dX10_piecesAt_23 : decode cX10_piecesAt 23 = .ok (.goto 4, 3) := by decide +kernel
theorem dX10_piecesAt_26 : decode cX10_piecesAt 26 = .ok (.iconst 0, 1) := by decide +kernel
theorem dX10_piecesAt_27 : decode cX10_piecesAt 27 = .ok (.istore 5, 2) := by decide +kernel
theorem dX10_piecesAt_29 : decode cX10_piecesAt 29 = .ok (.iload 5, 2) := by decide +kernel
theorem dX10_piecesAt_31 : decode cX10_piecesAt 31 = .ok (.aload_n 0, 1) := by decide +kernel
theorem dX10_piecesAt_32 : decode cX10_piecesAt 32 = .ok (.iload 4, 2) := by decide +kernel
theorem dX10_piecesAt_34 : decode cX10_piecesAt 34 = .ok (.iconst 1, 1) := by decide +kernel
theorem dX10_piecesAt_35 : decode cX10_piecesAt 35 = .ok (.iadd, 1) := by decide +kernel
theorem dX10_piecesAt_36 : decode cX10_piecesAt 36 = .ok (.iload 4, 2) := by decide +kernel
theorem dX10_piecesAt_38 : decode cX10_piecesAt 38 = .ok (.bipush 8, 2) := by decide +kernel
theorem dX10_piecesAt_40 : decode cX10_piecesAt 40 = .ok (.iadd, 1) := by decide +kernel
theorem dX10_piecesAt_41 : decode cX10_piecesAt 41 = .ok (.iload_n 3, 1) := by decide +kernel
theorem dX10_piecesAt_42 : decode cX10_piecesAt 42 = .ok (.invokevirtual 142, 3) := by decide +kernel
theorem dX10_piecesAt_45 : decode cX10_piecesAt 45 = .ok (.ifCond .eq 7, 3) := by decide +kernel
theorem dX10_piecesAt_48 : decode cX10_piecesAt 48 = .ok (.iconst 1, 1) := by decide +kernel
theorem dX10_piecesAt_49 : decode cX10_piecesAt 49 = .ok (.goto 4, 3) := by decide +kernel
theorem dX10_piecesAt_52 : decode cX10_piecesAt 52 = .ok (.iconst 0, 1) := by decide +kernel
theorem dX10_piecesAt_53 : decode cX10_piecesAt 53 = .ok (.iadd, 1) := by decide +kernel
theorem dX10_piecesAt_54 : decode cX10_piecesAt 54 = .ok (.istore 5, 2) := by decide +kernel
theorem dX10_piecesAt_56 : decode cX10_piecesAt 56 = .ok (.iload 5, 2) := by decide +kernel
theorem dX10_piecesAt_58 : decode cX10_piecesAt 58 = .ok (.aload_n 0, 1) := by decide +kernel
theorem dX10_piecesAt_59 : decode cX10_piecesAt 59 = .ok (.iload 4, 2) := by decide +kernel
theorem dX10_piecesAt_61 : decode cX10_piecesAt 61 = .ok (.bipush 7, 2) := by decide +kernel
theorem dX10_piecesAt_63 : decode cX10_piecesAt 63 = .ok (.iadd, 1) := by decide +kernel
theorem dX10_piecesAt_64 : decode cX10_piecesAt 64 = .ok (.iload 4, 2) := by decide +kernel
theorem dX10_piecesAt_66 : decode cX10_piecesAt 66 = .ok (.bipush 8, 2) := by decide +kernel
theorem dX10_piecesAt_68 : decode cX10_piecesAt 68 = .ok (.iadd, 1) := by decide +kernel
theorem dX10_piecesAt_69 : decode cX10_piecesAt 69 = .ok (.iload_n 3, 1) := by decide +kernel
theorem dX10_piecesAt_70 : decode cX10_piecesAt 70 = .ok (.invokevirtual 142, 3) := by decide +kernel
theorem dX10_piecesAt_73 : decode cX10_piecesAt 73 = .ok (.ifCond .eq 7, 3) := by decide +kernel
theorem dX10_piecesAt_76 : decode cX10_piecesAt 76 = .ok (.iconst 1, 1) := by decide +kernel
theorem dX10_piecesAt_77 : decode cX10_piecesAt 77 = .ok (.goto 4, 3) := by decide +kernel
theorem dX10_piecesAt_80 : decode cX10_piecesAt 80 = .ok (.iconst 0, 1) := by decide +kernel
theorem dX10_piecesAt_81 : decode cX10_piecesAt 81 = .ok (.iadd, 1) := by decide +kernel
theorem dX10_piecesAt_82 : decode cX10_piecesAt 82 = .ok (.istore 5, 2) := by decide +kernel
theorem dX10_piecesAt_84 : decode cX10_piecesAt 84 = .ok (.iload 5, 2) := by decide +kernel
theorem dX10_piecesAt_86 : decode cX10_piecesAt 86 = .ok (.aload_n 0, 1) := by decide +kernel
theorem dX10_piecesAt_87 : decode cX10_piecesAt 87 = .ok (.iload 4, 2) := by decide +kernel
theorem dX10_piecesAt_89 : decode cX10_piecesAt 89 = .ok (.iload 4, 2) := by decide +kernel
theorem dX10_piecesAt_91 : decode cX10_piecesAt 91 = .ok (.bipush 7, 2) := by decide +kernel
theorem dX10_piecesAt_93 : decode cX10_piecesAt 93 = .ok (.iadd, 1) := by decide +kernel
theorem dX10_piecesAt_94 : decode cX10_piecesAt 94 = .ok (.iload_n 3, 1) := by decide +kernel
theorem dX10_piecesAt_95 : decode cX10_piecesAt 95 = .ok (.invokevirtual 142, 3) := by decide +kernel
theorem dX10_piecesAt_98 : decode cX10_piecesAt 98 = .ok (.ifCond .eq 7, 3) := by decide +kernel
theorem dX10_piecesAt_101 : decode cX10_piecesAt 101 = .ok (.iconst 1, 1) := by decide +kernel
theorem dX10_piecesAt_102 : decode cX10_piecesAt 102 = .ok (.goto 4, 3) := by decide +kernel
theorem dX10_piecesAt_105 : decode cX10_piecesAt 105 = .ok (.iconst 0, 1) := by decide +kernel
theorem dX10_piecesAt_106 : decode cX10_piecesAt 106 = .ok (.iadd, 1) := by decide +kernel
theorem dX10_piecesAt_107 : decode cX10_piecesAt 107 = .ok (.istore 5, 2) := by decide +kernel
theorem dX10_piecesAt_109 : decode cX10_piecesAt 109 = .ok (.iload 5, 2) := by decide +kernel
theorem dX10_piecesAt_111 : decode cX10_piecesAt 111 = .ok (.iconst 2, 1) := by decide +kernel
theorem dX10_piecesAt_112 : decode cX10_piecesAt 112 = .ok (.idiv, 1) := by decide +kernel
theorem dX10_piecesAt_113 : decode cX10_piecesAt 113 = .ok (.ireturn, 1) := by decide +kernel
theorem dX10_traces_0 : decode cX10_traces 0 = .ok (.iconst 0, 1) := by decide +kernel
theorem dX10_traces_1 : decode cX10_traces 1 = .ok (.istore_n 2, 1) := by decide +kernel
theorem dX10_traces_2 : decode cX10_traces 2 = .ok (.iload_n 2, 1) := by decide +kernel
theorem dX10_traces_3 : decode cX10_traces 3 = .ok (.bipush 7, 2) := by decide +kernel
theorem dX10_traces_5 : decode cX10_traces 5 = .ok (.if_icmp .ge 110, 3) := by decide +kernel
theorem dX10_traces_8 : decode cX10_traces 8 = .ok (.iconst 0, 1) := by decide +kernel
theorem dX10_traces_9 : decode cX10_traces 9 = .ok (.istore_n 3, 1) := by decide +kernel
theorem dX10_traces_10 : decode cX10_traces 10 = .ok (.iload_n 3, 1) := by decide +kernel
theorem dX10_traces_11 : decode cX10_traces 11 = .ok (.bipush 7, 2) := by decide +kernel
theorem dX10_traces_13 : decode cX10_traces 13 = .ok (.if_icmp .ge 96, 3) := by decide +kernel
theorem dX10_traces_16 : decode cX10_traces 16 = .ok (.bipush 7, 2) := by decide +kernel
theorem dX10_traces_18 : decode cX10_traces 18 = .ok (.iload_n 2, 1) := by decide +kernel
theorem dX10_traces_19 : decode cX10_traces 19 = .ok (.imul, 1) := by decide +kernel
theorem dX10_traces_20 : decode cX10_traces 20 = .ok (.iload_n 3, 1) := by decide +kernel
theorem dX10_traces_21 : decode cX10_traces 21 = .ok (.iadd, 1) := by decide +kernel
theorem dX10_traces_22 : decode cX10_traces 22 = .ok (.istore 4, 2) := by decide +kernel
theorem dX10_traces_24 : decode cX10_traces 24 = .ok (.iload_n 3, 1) := by decide +kernel
theorem dX10_traces_25 : decode cX10_traces 25 = .ok (.bipush 6, 2) := by decide +kernel
theorem dX10_traces_27 : decode cX10_traces 27 = .ok (.if_icmp .ge 36, 3) := by decide +kernel
theorem dX10_traces_30 : decode cX10_traces 30 = .ok (.aload_n 0, 1) := by decide +kernel
theorem dX10_traces_31 : decode cX10_traces 31 = .ok (.getfield 29, 3) := by decide +kernel
theorem dX10_traces_34 : decode cX10_traces 34 = .ok (.iload_n 2, 1) := by decide +kernel
theorem dX10_traces_35 : decode cX10_traces 35 = .ok (.iload_n 3, 1) := by decide +kernel
theorem dX10_traces_36 : decode cX10_traces 36 = .ok (.invokestatic 145, 3) := by decide +kernel
theorem dX10_traces_39 : decode cX10_traces 39 = .ok (.aload_n 0, 1) := by decide +kernel
theorem dX10_traces_40 : decode cX10_traces 40 = .ok (.iload 4, 2) := by decide +kernel
theorem dX10_traces_42 : decode cX10_traces 42 = .ok (.iload 4, 2) := by decide +kernel
theorem dX10_traces_44 : decode cX10_traces 44 = .ok (.iconst 1, 1) := by decide +kernel
theorem dX10_traces_45 : decode cX10_traces 45 = .ok (.iadd, 1) := by decide +kernel
theorem dX10_traces_46 : decode cX10_traces 46 = .ok (.iload_n 1, 1) := by decide +kernel
theorem dX10_traces_47 : decode cX10_traces 47 = .ok (.invokevirtual 142, 3) := by decide +kernel
theorem dX10_traces_50 : decode cX10_traces 50 = .ok (.ifCond .eq 11, 3) := by decide +kernel
theorem dX10_traces_53 : decode cX10_traces 53 = .ok (.iload_n 2, 1) := by decide +kernel
theorem dX10_traces_54 : decode cX10_traces 54 = .ok (.iload_n 3, 1) := by decide +kernel
theorem dX10_traces_55 : decode cX10_traces 55 = .ok (.invokestatic 145, 3) := by decide +kernel
theorem dX10_traces_58 : decode cX10_traces 58 = .ok (.goto 4, 3) := by decide +kernel
theorem dX10_traces_61 : decode cX10_traces 61 = .ok (.iconst (-1), 1) := by decide +kernel
theorem dX10_traces_62 : decode cX10_traces 62 = .ok (.iastore, 1) := by decide +kernel
theorem dX10_traces_63 : decode cX10_traces 63 = .ok (.iload_n 2, 1) := by decide +kernel
theorem dX10_traces_64 : decode cX10_traces 64 = .ok (.bipush 6, 2) := by decide +kernel
theorem dX10_traces_66 : decode cX10_traces 66 = .ok (.if_icmp .ge 37, 3) := by decide +kernel
theorem dX10_traces_69 : decode cX10_traces 69 = .ok (.aload_n 0, 1) := by decide +kernel
theorem dX10_traces_70 : decode cX10_traces 70 = .ok (.getfield 29, 3) := by decide +kernel
theorem dX10_traces_73 : decode cX10_traces 73 = .ok (.iload_n 2, 1) := by decide +kernel
theorem dX10_traces_74 : decode cX10_traces 74 = .ok (.iload_n 3, 1) := by decide +kernel
theorem dX10_traces_75 : decode cX10_traces 75 = .ok (.invokestatic 148, 3) := by decide +kernel
theorem dX10_traces_78 : decode cX10_traces 78 = .ok (.aload_n 0, 1) := by decide +kernel
theorem dX10_traces_79 : decode cX10_traces 79 = .ok (.iload 4, 2) := by decide +kernel
theorem dX10_traces_81 : decode cX10_traces 81 = .ok (.iload 4, 2) := by decide +kernel
theorem dX10_traces_83 : decode cX10_traces 83 = .ok (.bipush 7, 2) := by decide +kernel
theorem dX10_traces_85 : decode cX10_traces 85 = .ok (.iadd, 1) := by decide +kernel
theorem dX10_traces_86 : decode cX10_traces 86 = .ok (.iload_n 1, 1) := by decide +kernel
theorem dX10_traces_87 : decode cX10_traces 87 = .ok (.invokevirtual 142, 3) := by decide +kernel
theorem dX10_traces_90 : decode cX10_traces 90 = .ok (.ifCond .eq 11, 3) := by decide +kernel
theorem dX10_traces_93 : decode cX10_traces 93 = .ok (.iload_n 2, 1) := by decide +kernel
theorem dX10_traces_94 : decode cX10_traces 94 = .ok (.iload_n 3, 1) := by decide +kernel
theorem dX10_traces_95 : decode cX10_traces 95 = .ok (.invokestatic 148, 3) := by decide +kernel
theorem dX10_traces_98 : decode cX10_traces 98 = .ok (.goto 4, 3) := by decide +kernel
theorem dX10_traces_101 : decode cX10_traces 101 = .ok (.iconst (-1), 1) := by decide +kernel
theorem dX10_traces_102 : decode cX10_traces 102 = .ok (.iastore, 1) := by decide +kernel
theorem dX10_traces_103 : decode cX10_traces 103 = .ok (.iinc 3 1, 3) := by decide +kernel
theorem dX10_traces_106 : decode cX10_traces 106 = .ok (.goto (-96), 3) := by decide +kernel
theorem dX10_traces_109 : decode cX10_traces 109 = .ok (.iinc 2 1, 3) := by decide +kernel
theorem dX10_traces_112 : decode cX10_traces 112 = .ok (.goto (-110), 3) := by decide +kernel
theorem dX10_traces_115 : decode cX10_traces 115 = .ok (.iconst 0, 1) := by decide +kernel
theorem dX10_traces_116 : decode cX10_traces 116 = .ok (.istore_n 2, 1) := by decide +kernel
theorem dX10_traces_117 : decode cX10_traces 117 = .ok (.iload_n 2, 1) := by decide +kernel
theorem dX10_traces_118 : decode cX10_traces 118 = .ok (.bipush 6, 2) := by decide +kernel
theorem dX10_traces_120 : decode cX10_traces 120 = .ok (.if_icmp .ge 214, 3) := by decide +kernel
theorem dX10_traces_123 : decode cX10_traces 123 = .ok (.iconst 0, 1) := by decide +kernel
theorem dX10_traces_124 : decode cX10_traces 124 = .ok (.istore_n 3, 1) := by decide +kernel
theorem dX10_traces_125 : decode cX10_traces 125 = .ok (.iload_n 3, 1) := by decide +kernel
theorem dX10_traces_126 : decode cX10_traces 126 = .ok (.bipush 6, 2) := by decide +kernel
theorem dX10_traces_128 : decode cX10_traces 128 = .ok (.if_icmp .ge 200, 3) := by decide +kernel
theorem dX10_traces_131 : decode cX10_traces 131 = .ok (.iload_n 2, 1) := by decide +kernel
theorem dX10_traces_132 : decode cX10_traces 132 = .ok (.iload_n 3, 1) := by decide +kernel
theorem dX10_traces_133 : decode cX10_traces 133 = .ok (.invokestatic 145, 3) := by decide +kernel
theorem dX10_traces_136 : decode cX10_traces 136 = .ok (.istore 4, 2) := by decide +kernel
theorem dX10_traces_138 : decode cX10_traces 138 = .ok (.iload_n 2, 1) := by decide +kernel
theorem dX10_traces_139 : decode cX10_traces 139 = .ok (.iconst 1, 1) := by decide +kernel
theorem dX10_traces_140 : decode cX10_traces 140 = .ok (.iadd, 1) := by decide +kernel
theorem dX10_traces_141 : decode cX10_traces 141 = .ok (.iload_n 3, 1) := by decide +kernel
theorem dX10_traces_142 : decode cX10_traces 142 = .ok (.invokestatic 145, 3) := by decide +kernel
theorem dX10_traces_145 : decode cX10_traces 145 = .ok (.istore 5, 2) := by decide +kernel
theorem dX10_traces_147 : decode cX10_traces 147 = .ok (.iload_n 2, 1) := by decide +kernel
theorem dX10_traces_148 : decode cX10_traces 148 = .ok (.iload_n 3, 1) := by decide +kernel
theorem dX10_traces_149 : decode cX10_traces 149 = .ok (.invokestatic 148, 3) := by decide +kernel
theorem dX10_traces_152 : decode cX10_traces 152 = .ok (.istore 6, 2) := by decide +kernel
theorem dX10_traces_154 : decode cX10_traces 154 = .ok (.iload_n 2, 1) := by decide +kernel
theorem dX10_traces_155 : decode cX10_traces 155 = .ok (.iload_n 3, 1) := by decide +kernel
theorem dX10_traces_156 : decode cX10_traces 156 = .ok (.iconst 1, 1) := by decide +kernel
theorem dX10_traces_157 : decode cX10_traces 157 = .ok (.iadd, 1) := by decide +kernel
theorem dX10_traces_158 : decode cX10_traces 158 = .ok (.invokestatic 148, 3) := by decide +kernel
theorem dX10_traces_161 : decode cX10_traces 161 = .ok (.istore 7, 2) := by decide +kernel
theorem dX10_traces_163 : decode cX10_traces 163 = .ok (.aload_n 0, 1) := by decide +kernel
theorem dX10_traces_164 : decode cX10_traces 164 = .ok (.iload_n 2, 1) := by decide +kernel
theorem dX10_traces_165 : decode cX10_traces 165 = .ok (.iload_n 3, 1) := by decide +kernel
theorem dX10_traces_166 : decode cX10_traces 166 = .ok (.iload_n 1, 1) := by decide +kernel
theorem dX10_traces_167 : decode cX10_traces 167 = .ok (.invokevirtual 151, 3) := by decide +kernel
theorem dX10_traces_170 : decode cX10_traces 170 = .ok (.istore 8, 2) := by decide +kernel
theorem dX10_traces_172 : decode cX10_traces 172 = .ok (.iload 8, 2) := by decide +kernel
theorem dX10_traces_174 : decode cX10_traces 174 = .ok (.iconst 2, 1) := by decide +kernel
theorem dX10_traces_175 : decode cX10_traces 175 = .ok (.if_icmp .ne 36, 3) := by decide +kernel
theorem dX10_traces_178 : decode cX10_traces 178 = .ok (.aload_n 0, 1) := by decide +kernel
theorem dX10_traces_179 : decode cX10_traces 179 = .ok (.bipush 7, 2) := by decide +kernel
theorem dX10_traces_181 : decode cX10_traces 181 = .ok (.iload_n 2, 1) := by decide +kernel
theorem dX10_traces_182 : decode cX10_traces 182 = .ok (.imul, 1) := by decide +kernel
theorem dX10_traces_183 : decode cX10_traces 183 = .ok (.iload_n 3, 1) := by decide +kernel
theorem dX10_traces_184 : decode cX10_traces 184 = .ok (.iadd, 1) := by decide +kernel
theorem dX10_traces_185 : decode cX10_traces 185 = .ok (.iload_n 1, 1) := by decide +kernel
theorem dX10_traces_186 : decode cX10_traces 186 = .ok (.invokevirtual 129, 3) := by decide +kernel
theorem dX10_traces_189 : decode cX10_traces 189 = .ok (.ifCond .eq 22, 3) := by decide +kernel
theorem dX10_traces_192 : decode cX10_traces 192 = .ok (.aload_n 0, 1) := by decide +kernel
theorem dX10_traces_193 : decode cX10_traces 193 = .ok (.iload 4, 2) := by decide +kernel
theorem dX10_traces_195 : decode cX10_traces 195 = .ok (.iload 6, 2) := by decide +kernel
theorem dX10_traces_197 : decode cX10_traces 197 = .ok (.invokevirtual 154, 3) := by decide +kernel
theorem dX10_traces_200 : decode cX10_traces 200 = .ok (.aload_n 0, 1) := by decide +kernel
theorem dX10_traces_201 : decode cX10_traces 201 = .ok (.iload 5, 2) := by decide +kernel
theorem dX10_traces_203 : decode cX10_traces 203 = .ok (.iload 7, 2) := by decide +kernel
theorem dX10_traces_205 : decode cX10_traces 205 = .ok (.invokevirtual 154, 3) := by decide +kernel
theorem dX10_traces_208 : decode cX10_traces 208 = .ok (.goto 114, 3) := by decide +kernel
theorem dX10_traces_211 : decode cX10_traces 211 = .ok (.iload 8, 2) := by decide +kernel
theorem dX10_traces_213 : decode cX10_traces 213 = .ok (.iconst 2, 1) := by decide +kernel
theorem dX10_traces_214 : decode cX10_traces 214 = .ok (.if_icmp .ne 22, 3) := by decide +kernel
theorem dX10_traces_217 : decode cX10_traces 217 = .ok (.aload_n 0, 1) := by decide +kernel
theorem dX10_traces_218 : decode cX10_traces 218 = .ok (.iload 4, 2) := by decide +kernel
theorem dX10_traces_220 : decode cX10_traces 220 = .ok (.iload 7, 2) := by decide +kernel
theorem dX10_traces_222 : decode cX10_traces 222 = .ok (.invokevirtual 154, 3) := by decide +kernel
theorem dX10_traces_225 : decode cX10_traces 225 = .ok (.aload_n 0, 1) := by decide +kernel
theorem dX10_traces_226 : decode cX10_traces 226 = .ok (.iload 5, 2) := by decide +kernel
theorem dX10_traces_228 : decode cX10_traces 228 = .ok (.iload 6, 2) := by decide +kernel
theorem dX10_traces_230 : decode cX10_traces 230 = .ok (.invokevirtual 154, 3) := by decide +kernel
theorem dX10_traces_233 : decode cX10_traces 233 = .ok (.goto 89, 3) := by decide +kernel
theorem dX10_traces_236 : decode cX10_traces 236 = .ok (.iload 8, 2) := by decide +kernel
theorem dX10_traces_238 : decode cX10_traces 238 = .ok (.iconst 1, 1) := by decide +kernel
theorem dX10_traces_239 : decode cX10_traces 239 = .ok (.if_icmp .ne 83, 3) := by decide +kernel
theorem dX10_traces_242 : decode cX10_traces 242 = .ok (.aload_n 0, 1) := by decide +kernel
theorem dX10_traces_243 : decode cX10_traces 243 = .ok (.getfield 29, 3) := by decide +kernel
theorem dX10_traces_246 : decode cX10_traces 246 = .ok (.iload 4, 2) := by decide +kernel
theorem dX10_traces_248 : decode cX10_traces 248 = .ok (.iaload, 1) := by decide +kernel
theorem dX10_traces_249 : decode cX10_traces 249 = .ok (.iconst (-1), 1) := by decide +kernel
theorem dX10_traces_250 : decode cX10_traces 250 = .ok (.if_icmp .eq 8, 3) := by decide +kernel
theorem dX10_traces_253 : decode cX10_traces 253 = .ok (.iload 4, 2) := by decide +kernel
theorem dX10_traces_255 : decode cX10_traces 255 = .ok (.goto 21, 3) := by decide +kernel
theorem dX10_traces_258 : decode cX10_traces 258 = .ok (.aload_n 0, 1) := by decide +kernel
theorem dX10_traces_259 : decode cX10_traces 259 = .ok (.getfield 29, 3) := by decide +kernel
theorem dX10_traces_262 : decode cX10_traces 262 = .ok (.iload 7, 2) := by decide +kernel
theorem dX10_traces_264 : decode cX10_traces 264 = .ok (.iaload, 1) := by decide +kernel
theorem dX10_traces_265 : decode cX10_traces 265 = .ok (.iconst (-1), 1) := by decide +kernel
theorem dX10_traces_266 : decode cX10_traces 266 = .ok (.if_icmp .eq 8, 3) := by decide +kernel
theorem dX10_traces_269 : decode cX10_traces 269 = .ok (.iload 7, 2) := by decide +kernel
theorem dX10_traces_271 : decode cX10_traces 271 = .ok (.goto 5, 3) := by decide +kernel
theorem dX10_traces_274 : decode cX10_traces 274 = .ok (.iload 5, 2) := by decide +kernel
theorem dX10_traces_276 : decode cX10_traces 276 = .ok (.istore 9, 2) := by decide +kernel
theorem dX10_traces_278 : decode cX10_traces 278 = .ok (.aload_n 0, 1) := by decide +kernel
theorem dX10_traces_279 : decode cX10_traces 279 = .ok (.getfield 29, 3) := by decide +kernel
theorem dX10_traces_282 : decode cX10_traces 282 = .ok (.iload 6, 2) := by decide +kernel
theorem dX10_traces_284 : decode cX10_traces 284 = .ok (.iaload, 1) := by decide +kernel
theorem dX10_traces_285 : decode cX10_traces 285 = .ok (.iconst (-1), 1) := by decide +kernel
theorem dX10_traces_286 : decode cX10_traces 286 = .ok (.if_icmp .eq 8, 3) := by decide +kernel
theorem dX10_traces_289 : decode cX10_traces 289 = .ok (.iload 6, 2) := by decide +kernel
theorem dX10_traces_291 : decode cX10_traces 291 = .ok (.goto 21, 3) := by decide +kernel
theorem dX10_traces_294 : decode cX10_traces 294 = .ok (.aload_n 0, 1) := by decide +kernel
theorem dX10_traces_295 : decode cX10_traces 295 = .ok (.getfield 29, 3) := by decide +kernel
theorem dX10_traces_298 : decode cX10_traces 298 = .ok (.iload 5, 2) := by decide +kernel
theorem dX10_traces_300 : decode cX10_traces 300 = .ok (.iaload, 1) := by decide +kernel
theorem dX10_traces_301 : decode cX10_traces 301 = .ok (.iconst (-1), 1) := by decide +kernel
theorem dX10_traces_302 : decode cX10_traces 302 = .ok (.if_icmp .eq 8, 3) := by decide +kernel
theorem dX10_traces_305 : decode cX10_traces 305 = .ok (.iload 5, 2) := by decide +kernel
theorem dX10_traces_307 : decode cX10_traces 307 = .ok (.goto 5, 3) := by decide +kernel
theorem dX10_traces_310 : decode cX10_traces 310 = .ok (.iload 7, 2) := by decide +kernel
theorem dX10_traces_312 : decode cX10_traces 312 = .ok (.istore 10, 2) := by decide +kernel
theorem dX10_traces_314 : decode cX10_traces 314 = .ok (.aload_n 0, 1) := by decide +kernel
theorem dX10_traces_315 : decode cX10_traces 315 = .ok (.iload 9, 2) := by decide +kernel
theorem dX10_traces_317 : decode cX10_traces 317 = .ok (.iload 10, 2) := by decide +kernel
theorem dX10_traces_319 : decode cX10_traces 319 = .ok (.invokevirtual 154, 3) := by decide +kernel
theorem dX10_traces_322 : decode cX10_traces 322 = .ok (.iinc 3 1, 3) := by decide +kernel
theorem dX10_traces_325 : decode cX10_traces 325 = .ok (.goto (-200), 3) := by decide +kernel
theorem dX10_traces_328 : decode cX10_traces 328 = .ok (.iinc 2 1, 3) := by decide +kernel
theorem dX10_traces_331 : decode cX10_traces 331 = .ok (.goto (-214), 3) := by decide +kernel
theorem dX10_traces_334 : decode cX10_traces 334 = .ok (.aload_n 0, 1) := by decide +kernel
theorem dX10_traces_335 : decode cX10_traces 335 = .ok (.iload_n 1, 1) := by decide +kernel
theorem dX10_traces_336 : decode cX10_traces 336 = .ok (.invokevirtual 158, 3) := by decide +kernel
theorem dX10_traces_339 : decode cX10_traces 339 = .ok (.return_, 1) := by decide +kernel
theorem dX10_counts_0 : decode cX10_counts 0 = .ok (.iconst 0, 1) := by decide +kernel
theorem dX10_counts_1 : decode cX10_counts 1 = .ok (.istore_n 2, 1) := by decide +kernel
theorem dX10_counts_2 : decode cX10_counts 2 = .ok (.iload_n 2, 1) := by decide +kernel
theorem dX10_counts_3 : decode cX10_counts 3 = .ok (.bipush 84, 2) := by decide +kernel
theorem dX10_counts_5 : decode cX10_counts 5 = .ok (.if_icmp .ge 23, 3) := by decide +kernel
theorem dX10_counts_8 : decode cX10_counts 8 = .ok (.aload_n 0, 1) := by decide +kernel
theorem dX10_counts_9 : decode cX10_counts 9 = .ok (.getfield 32, 3) := by decide +kernel
theorem dX10_counts_12 : decode cX10_counts 12 = .ok (.iload_n 2, 1) := by decide +kernel
theorem dX10_counts_13 : decode cX10_counts 13 = .ok (.iconst 0, 1) := by decide +kernel
theorem dX10_counts_14 : decode cX10_counts 14 = .ok (.iastore, 1) := by decide +kernel
theorem dX10_counts_15 : decode cX10_counts 15 = .ok (.aload_n 0, 1) := by decide +kernel
theorem dX10_counts_16 : decode cX10_counts 16 = .ok (.getfield 35, 3) := by decide +kernel
theorem dX10_counts_19 : decode cX10_counts 19 = .ok (.iload_n 2, 1) := by decide +kernel
theorem dX10_counts_20 : decode cX10_counts 20 = .ok (.iconst 0, 1) := by decide +kernel
theorem dX10_counts_21 : decode cX10_counts 21 = .ok (.bastore, 1) := by decide +kernel
theorem dX10_counts_22 : decode cX10_counts 22 = .ok (.iinc 2 1, 3) := by decide +kernel
theorem dX10_counts_25 : decode cX10_counts 25 = .ok (.goto (-23), 3) := by decide +kernel
theorem dX10_counts_28 : decode cX10_counts 28 = .ok (.iconst 0, 1) := by decide +kernel
theorem dX10_counts_29 : decode cX10_counts 29 = .ok (.istore_n 2, 1) := by decide +kernel
theorem dX10_counts_30 : decode cX10_counts 30 = .ok (.iload_n 2, 1) := by decide +kernel
theorem dX10_counts_31 : decode cX10_counts 31 = .ok (.bipush 6, 2) := by decide +kernel
theorem dX10_counts_33 : decode cX10_counts 33 = .ok (.if_icmp .ge 163, 3) := by decide +kernel
theorem dX10_counts_36 : decode cX10_counts 36 = .ok (.iconst 0, 1) := by decide +kernel
theorem dX10_counts_37 : decode cX10_counts 37 = .ok (.istore_n 3, 1) := by decide +kernel
theorem dX10_counts_38 : decode cX10_counts 38 = .ok (.iload_n 3, 1) := by decide +kernel
theorem dX10_counts_39 : decode cX10_counts 39 = .ok (.bipush 6, 2) := by decide +kernel
theorem dX10_counts_41 : decode cX10_counts 41 = .ok (.if_icmp .ge 149, 3) := by decide +kernel
theorem dX10_counts_44 : decode cX10_counts 44 = .ok (.iload_n 2, 1) := by decide +kernel
theorem dX10_counts_45 : decode cX10_counts 45 = .ok (.iload_n 3, 1) := by decide +kernel
theorem dX10_counts_46 : decode cX10_counts 46 = .ok (.invokestatic 145, 3) := by decide +kernel
theorem dX10_counts_49 : decode cX10_counts 49 = .ok (.istore 4, 2) := by decide +kernel
theorem dX10_counts_51 : decode cX10_counts 51 = .ok (.iload_n 2, 1) := by decide +kernel
theorem dX10_counts_52 : decode cX10_counts 52 = .ok (.iconst 1, 1) := by decide +kernel
theorem dX10_counts_53 : decode cX10_counts 53 = .ok (.iadd, 1) := by decide +kernel
theorem dX10_counts_54 : decode cX10_counts 54 = .ok (.iload_n 3, 1) := by decide +kernel
theorem dX10_counts_55 : decode cX10_counts 55 = .ok (.invokestatic 145, 3) := by decide +kernel
theorem dX10_counts_58 : decode cX10_counts 58 = .ok (.istore 5, 2) := by decide +kernel
theorem dX10_counts_60 : decode cX10_counts 60 = .ok (.iload_n 2, 1) := by decide +kernel
theorem dX10_counts_61 : decode cX10_counts 61 = .ok (.iload_n 3, 1) := by decide +kernel
theorem dX10_counts_62 : decode cX10_counts 62 = .ok (.invokestatic 148, 3) := by decide +kernel
theorem dX10_counts_65 : decode cX10_counts 65 = .ok (.istore 6, 2) := by decide +kernel
theorem dX10_counts_67 : decode cX10_counts 67 = .ok (.iload_n 2, 1) := by decide +kernel
theorem dX10_counts_68 : decode cX10_counts 68 = .ok (.iload_n 3, 1) := by decide +kernel
theorem dX10_counts_69 : decode cX10_counts 69 = .ok (.iconst 1, 1) := by decide +kernel
theorem dX10_counts_70 : decode cX10_counts 70 = .ok (.iadd, 1) := by decide +kernel
theorem dX10_counts_71 : decode cX10_counts 71 = .ok (.invokestatic 148, 3) := by decide +kernel
theorem dX10_counts_74 : decode cX10_counts 74 = .ok (.istore 7, 2) := by decide +kernel
theorem dX10_counts_76 : decode cX10_counts 76 = .ok (.aload_n 0, 1) := by decide +kernel
theorem dX10_counts_77 : decode cX10_counts 77 = .ok (.iload_n 2, 1) := by decide +kernel
theorem dX10_counts_78 : decode cX10_counts 78 = .ok (.iload_n 3, 1) := by decide +kernel
theorem dX10_counts_79 : decode cX10_counts 79 = .ok (.iload_n 1, 1) := by decide +kernel
theorem dX10_counts_80 : decode cX10_counts 80 = .ok (.invokevirtual 151, 3) := by decide +kernel
theorem dX10_counts_83 : decode cX10_counts 83 = .ok (.istore 8, 2) := by decide +kernel
theorem dX10_counts_85 : decode cX10_counts 85 = .ok (.iload 8, 2) := by decide +kernel
theorem dX10_counts_87 : decode cX10_counts 87 = .ok (.iconst 2, 1) := by decide +kernel
theorem dX10_counts_88 : decode cX10_counts 88 = .ok (.if_icmp .ne 38, 3) := by decide +kernel
theorem dX10_counts_91 : decode cX10_counts 91 = .ok (.aload_n 0, 1) := by decide +kernel
theorem dX10_counts_92 : decode cX10_counts 92 = .ok (.getfield 32, 3) := by decide +kernel
theorem dX10_counts_95 : decode cX10_counts 95 = .ok (.aload_n 0, 1) := by decide +kernel
theorem dX10_counts_96 : decode cX10_counts 96 = .ok (.getfield 29, 3) := by decide +kernel
theorem dX10_counts_99 : decode cX10_counts 99 = .ok (.iload 4, 2) := by decide +kernel
theorem dX10_counts_101 : decode cX10_counts 101 = .ok (.iaload, 1) := by decide +kernel
theorem dX10_counts_102 : decode cX10_counts 102 = .ok (.dup2, 1) := by decide +kernel
theorem dX10_counts_103 : decode cX10_counts 103 = .ok (.iaload, 1) := by decide +kernel
theorem dX10_counts_104 : decode cX10_counts 104 = .ok (.iconst 1, 1) := by decide +kernel
theorem dX10_counts_105 : decode cX10_counts 105 = .ok (.iadd, 1) := by decide +kernel
theorem dX10_counts_106 : decode cX10_counts 106 = .ok (.iastore, 1) := by decide +kernel
theorem dX10_counts_107 : decode cX10_counts 107 = .ok (.aload_n 0, 1) := by decide +kernel
theorem dX10_counts_108 : decode cX10_counts 108 = .ok (.getfield 32, 3) := by decide +kernel
theorem dX10_counts_111 : decode cX10_counts 111 = .ok (.aload_n 0, 1) := by decide +kernel
theorem dX10_counts_112 : decode cX10_counts 112 = .ok (.getfield 29, 3) := by decide +kernel
theorem dX10_counts_115 : decode cX10_counts 115 = .ok (.iload 5, 2) := by decide +kernel
theorem dX10_counts_117 : decode cX10_counts 117 = .ok (.iaload, 1) := by decide +kernel
theorem dX10_counts_118 : decode cX10_counts 118 = .ok (.dup2, 1) := by decide +kernel
theorem dX10_counts_119 : decode cX10_counts 119 = .ok (.iaload, 1) := by decide +kernel
theorem dX10_counts_120 : decode cX10_counts 120 = .ok (.iconst 1, 1) := by decide +kernel
theorem dX10_counts_121 : decode cX10_counts 121 = .ok (.iadd, 1) := by decide +kernel
theorem dX10_counts_122 : decode cX10_counts 122 = .ok (.iastore, 1) := by decide +kernel
theorem dX10_counts_123 : decode cX10_counts 123 = .ok (.goto 61, 3) := by decide +kernel
theorem dX10_counts_126 : decode cX10_counts 126 = .ok (.iload 8, 2) := by decide +kernel
theorem dX10_counts_128 : decode cX10_counts 128 = .ok (.iconst 1, 1) := by decide +kernel
theorem dX10_counts_129 : decode cX10_counts 129 = .ok (.if_icmp .ne 55, 3) := by decide +kernel
theorem dX10_counts_132 : decode cX10_counts 132 = .ok (.aload_n 0, 1) := by decide +kernel
theorem dX10_counts_133 : decode cX10_counts 133 = .ok (.getfield 29, 3) := by decide +kernel
theorem dX10_counts_136 : decode cX10_counts 136 = .ok (.iload 4, 2) := by decide +kernel
theorem dX10_counts_138 : decode cX10_counts 138 = .ok (.iaload, 1) := by decide +kernel
theorem dX10_counts_139 : decode cX10_counts 139 = .ok (.iconst (-1), 1) := by decide +kernel
theorem dX10_counts_140 : decode cX10_counts 140 = .ok (.if_icmp .eq 8, 3) := by decide +kernel
theorem dX10_counts_143 : decode cX10_counts 143 = .ok (.iload 4, 2) := by decide +kernel
theorem dX10_counts_145 : decode cX10_counts 145 = .ok (.goto 21, 3) := by decide +kernel
theorem dX10_counts_148 : decode cX10_counts 148 = .ok (.aload_n 0, 1) := by decide +kernel
theorem dX10_counts_149 : decode cX10_counts 149 = .ok (.getfield 29, 3) := by decide +kernel
theorem dX10_counts_152 : decode cX10_counts 152 = .ok (.iload 7, 2) := by decide +kernel
theorem dX10_counts_154 : decode cX10_counts 154 = .ok (.iaload, 1) := by decide +kernel
theorem dX10_counts_155 : decode cX10_counts 155 = .ok (.iconst (-1), 1) := by decide +kernel
theorem dX10_counts_156 : decode cX10_counts 156 = .ok (.if_icmp .eq 8, 3) := by decide +kernel
theorem dX10_counts_159 : decode cX10_counts 159 = .ok (.iload 7, 2) := by decide +kernel
theorem dX10_counts_161 : decode cX10_counts 161 = .ok (.goto 5, 3) := by decide +kernel
theorem dX10_counts_164 : decode cX10_counts 164 = .ok (.iload 5, 2) := by decide +kernel
theorem dX10_counts_166 : decode cX10_counts 166 = .ok (.istore 9, 2) := by decide +kernel
theorem dX10_counts_168 : decode cX10_counts 168 = .ok (.aload_n 0, 1) := by decide +kernel
theorem dX10_counts_169 : decode cX10_counts 169 = .ok (.getfield 32, 3) := by decide +kernel
theorem dX10_counts_172 : decode cX10_counts 172 = .ok (.aload_n 0, 1) := by decide +kernel
theorem dX10_counts_173 : decode cX10_counts 173 = .ok (.getfield 29, 3) := by decide +kernel
theorem dX10_counts_176 : decode cX10_counts 176 = .ok (.iload 9, 2) := by decide +kernel
theorem dX10_counts_178 : decode cX10_counts 178 = .ok (.iaload, 1) := by decide +kernel
theorem dX10_counts_179 : decode cX10_counts 179 = .ok (.dup2, 1) := by decide +kernel
theorem dX10_counts_180 : decode cX10_counts 180 = .ok (.iaload, 1) := by decide +kernel
theorem dX10_counts_181 : decode cX10_counts 181 = .ok (.iconst 1, 1) := by decide +kernel
theorem dX10_counts_182 : decode cX10_counts 182 = .ok (.iadd, 1) := by decide +kernel
theorem dX10_counts_183 : decode cX10_counts 183 = .ok (.iastore, 1) := by decide +kernel
theorem dX10_counts_184 : decode cX10_counts 184 = .ok (.iinc 3 1, 3) := by decide +kernel
theorem dX10_counts_187 : decode cX10_counts 187 = .ok (.goto (-149), 3) := by decide +kernel
theorem dX10_counts_190 : decode cX10_counts 190 = .ok (.iinc 2 1, 3) := by decide +kernel
theorem dX10_counts_193 : decode cX10_counts 193 = .ok (.goto (-163), 3) := by decide +kernel
theorem dX10_counts_196 : decode cX10_counts 196 = .ok (.iconst 0, 1) := by decide +kernel
theorem dX10_counts_197 : decode cX10_counts 197 = .ok (.istore_n 2, 1) := by decide +kernel
theorem dX10_counts_198 : decode cX10_counts 198 = .ok (.iload_n 2, 1) := by decide +kernel
theorem dX10_counts_199 : decode cX10_counts 199 = .ok (.bipush 6, 2) := by decide +kernel
theorem dX10_counts_201 : decode cX10_counts 201 = .ok (.if_icmp .ge 47, 3) := by decide +kernel
theorem dX10_counts_204 : decode cX10_counts 204 = .ok (.aload_n 0, 1) := by decide +kernel
theorem dX10_counts_205 : decode cX10_counts 205 = .ok (.iconst 0, 1) := by decide +kernel
theorem dX10_counts_206 : decode cX10_counts 206 = .ok (.iload_n 2, 1) := by decide +kernel
theorem dX10_counts_207 : decode cX10_counts 207 = .ok (.invokestatic 145, 3) := by decide +kernel
theorem dX10_counts_210 : decode cX10_counts 210 = .ok (.invokevirtual 162, 3) := by decide +kernel
theorem dX10_counts_213 : decode cX10_counts 213 = .ok (.aload_n 0, 1) := by decide +kernel
theorem dX10_counts_214 : decode cX10_counts 214 = .ok (.bipush 6, 2) := by decide +kernel
theorem dX10_counts_216 : decode cX10_counts 216 = .ok (.iload_n 2, 1) := by decide +kernel
theorem dX10_counts_217 : decode cX10_counts 217 = .ok (.invokestatic 145, 3) := by decide +kernel
theorem dX10_counts_220 : decode cX10_counts 220 = .ok (.invokevirtual 162, 3) := by decide +kernel
theorem dX10_counts_223 : decode cX10_counts 223 = .ok (.aload_n 0, 1) := by decide +kernel
theorem dX10_counts_224 : decode cX10_counts 224 = .ok (.iload_n 2, 1) := by decide +kernel
theorem dX10_counts_225 : decode cX10_counts 225 = .ok (.iconst 0, 1) := by decide +kernel
theorem dX10_counts_226 : decode cX10_counts 226 = .ok (.invokestatic 148, 3) := by decide +kernel
theorem dX10_counts_229 : decode cX10_counts 229 = .ok (.invokevirtual 162, 3) := by decide +kernel
theorem dX10_counts_232 : decode cX10_counts 232 = .ok (.aload_n 0, 1) := by decide +kernel
theorem dX10_counts_233 : decode cX10_counts 233 = .ok (.iload_n 2, 1) := by decide +kernel
theorem dX10_counts_234 : decode cX10_counts 234 = .ok (.bipush 6, 2) := by decide +kernel
theorem dX10_counts_236 : decode cX10_counts 236 = .ok (.invokestatic 148, 3) := by decide +kernel
theorem dX10_counts_239 : decode cX10_counts 239 = .ok (.invokevirtual 162, 3) := by decide +kernel
theorem dX10_counts_242 : decode cX10_counts 242 = .ok (.iinc 2 1, 3) := by decide +kernel
theorem dX10_counts_245 : decode cX10_counts 245 = .ok (.goto (-47), 3) := by decide +kernel
theorem dX10_counts_248 : decode cX10_counts 248 = .ok (.return_, 1) := by decide +kernel
theorem dX10_ends_0 : decode cX10_ends 0 = .ok (.aload_n 0, 1) := by decide +kernel
theorem dX10_ends_1 : decode cX10_ends 1 = .ok (.getfield 29, 3) := by decide +kernel
theorem dX10_ends_4 : decode cX10_ends 4 = .ok (.iload_n 1, 1) := by decide +kernel
theorem dX10_ends_5 : decode cX10_ends 5 = .ok (.iaload, 1) := by decide +kernel
theorem dX10_ends_6 : decode cX10_ends 6 = .ok (.iconst (-1), 1) := by decide +kernel
theorem dX10_ends_7 : decode cX10_ends 7 = .ok (.if_icmp .eq 15, 3) := by decide +kernel
theorem dX10_ends_10 : decode cX10_ends 10 = .ok (.aload_n 0, 1) := by decide +kernel
theorem dX10_ends_11 : decode cX10_ends 11 = .ok (.getfield 35, 3) := by decide +kernel
theorem dX10_ends_14 : decode cX10_ends 14 = .ok (.aload_n 0, 1) := by decide +kernel
theorem dX10_ends_15 : decode cX10_ends 15 = .ok (.getfield 29, 3) := by decide +kernel
theorem dX10_ends_18 : decode cX10_ends 18 = .ok (.iload_n 1, 1) := by decide +kernel
theorem dX10_ends_19 : decode cX10_ends 19 = .ok (.iaload, 1) := by decide +kernel
theorem dX10_ends_20 : decode cX10_ends 20 = .ok (.iconst 1, 1) := by decide +kernel
theorem dX10_ends_21 : decode cX10_ends 21 = .ok (.bastore, 1) := by decide +kernel
theorem dX10_ends_22 : decode cX10_ends 22 = .ok (.return_, 1) := by decide +kernel
theorem dX10_crossings_0 : decode cX10_crossings 0 = .ok (.aload_n 0, 1) := by decide +kernel
theorem dX10_crossings_1 : decode cX10_crossings 1 = .ok (.iload_n 1, 1) := by decide +kernel
theorem dX10_crossings_2 : decode cX10_crossings 2 = .ok (.invokevirtual 165, 3) := by decide +kernel
theorem dX10_crossings_5 : decode cX10_crossings 5 = .ok (.iconst 0, 1) := by decide +kernel
theorem dX10_crossings_6 : decode cX10_crossings 6 = .ok (.istore_n 2, 1) := by decide +kernel
theorem dX10_crossings_7 : decode cX10_crossings 7 = .ok (.iconst 0, 1) := by decide +kernel
theorem dX10_crossings_8 : decode cX10_crossings 8 = .ok (.istore_n 3, 1) := by decide +kernel
theorem dX10_crossings_9 : decode cX10_crossings 9 = .ok (.iload_n 3, 1) := by decide +kernel
theorem dX10_crossings_10 : decode cX10_crossings 10 = .ok (.bipush 84, 2) := by decide +kernel
theorem dX10_crossings_12 : decode cX10_crossings 12 = .ok (.if_icmp .ge 27, 3) := by decide +kernel
theorem dX10_crossings_15 : decode cX10_crossings 15 = .ok (.iload_n 2, 1) := by decide +kernel
theorem dX10_crossings_16 : decode cX10_crossings 16 = .ok (.aload_n 0, 1) := by decide +kernel
theorem dX10_crossings_17 : decode cX10_crossings 17 = .ok (.getfield 29, 3) := by decide +kernel
theorem dX10_crossings_20 : decode cX10_crossings 20 = .ok (.iload_n 3, 1) := by decide +kernel
theorem dX10_crossings_21 : decode cX10_crossings 21 = .ok (.iaload, 1) := by decide +kernel
theorem dX10_crossings_22 : decode cX10_crossings 22 = .ok (.iconst (-1), 1) := by decide +kernel
theorem dX10_crossings_23 : decode cX10_crossings 23 = .ok (.if_icmp .ne 7, 3) := by decide +kernel
theorem dX10_crossings_26 : decode cX10_crossings 26 = .ok (.iconst 0, 1) := by decide +kernel
theorem dX10_crossings_27 : decode cX10_crossings 27 = .ok (.goto 4, 3) := by decide +kernel
theorem dX10_crossings_30 : decode cX10_crossings 30 = .ok (.iconst 1, 1) := by decide +kernel
theorem dX10_crossings_31 : decode cX10_crossings 31 = .ok (.iadd, 1) := by decide +kernel
theorem dX10_crossings_32 : decode cX10_crossings 32 = .ok (.istore_n 2, 1) := by decide +kernel
theorem dX10_crossings_33 : decode cX10_crossings 33 = .ok (.iinc 3 1, 3) := by decide +kernel
theorem dX10_crossings_36 : decode cX10_crossings 36 = .ok (.goto (-27), 3) := by decide +kernel
theorem dX10_crossings_39 : decode cX10_crossings 39 = .ok (.iload_n 2, 1) := by decide +kernel
theorem dX10_crossings_40 : decode cX10_crossings 40 = .ok (.ireturn, 1) := by decide +kernel
theorem dX10_lines_0 : decode cX10_lines 0 = .ok (.aload_n 0, 1) := by decide +kernel
theorem dX10_lines_1 : decode cX10_lines 1 = .ok (.iload_n 1, 1) := by decide +kernel
theorem dX10_lines_2 : decode cX10_lines 2 = .ok (.invokevirtual 165, 3) := by decide +kernel
theorem dX10_lines_5 : decode cX10_lines 5 = .ok (.iconst 0, 1) := by decide +kernel
theorem dX10_lines_6 : decode cX10_lines 6 = .ok (.istore_n 3, 1) := by decide +kernel
theorem dX10_lines_7 : decode cX10_lines 7 = .ok (.iconst 0, 1) := by decide +kernel
theorem dX10_lines_8 : decode cX10_lines 8 = .ok (.istore 4, 2) := by decide +kernel
theorem dX10_lines_10 : decode cX10_lines 10 = .ok (.iload 4, 2) := by decide +kernel
theorem dX10_lines_12 : decode cX10_lines 12 = .ok (.bipush 84, 2) := by decide +kernel
theorem dX10_lines_14 : decode cX10_lines 14 = .ok (.if_icmp .ge 43, 3) := by decide +kernel
theorem dX10_lines_17 : decode cX10_lines 17 = .ok (.iload_n 3, 1) := by decide +kernel
theorem dX10_lines_18 : decode cX10_lines 18 = .ok (.aload_n 0, 1) := by decide +kernel
theorem dX10_lines_19 : decode cX10_lines 19 = .ok (.getfield 29, 3) := by decide +kernel
theorem dX10_lines_22 : decode cX10_lines 22 = .ok (.iload 4, 2) := by decide +kernel
theorem dX10_lines_24 : decode cX10_lines 24 = .ok (.iaload, 1) := by decide +kernel
theorem dX10_lines_25 : decode cX10_lines 25 = .ok (.iload 4, 2) := by decide +kernel
theorem dX10_lines_27 : decode cX10_lines 27 = .ok (.if_icmp .ne 21, 3) := by decide +kernel
theorem dX10_lines_30 : decode cX10_lines 30 = .ok (.iload_n 2, 1) := by decide +kernel
theorem dX10_lines_31 : decode cX10_lines 31 = .ok (.ifCond .eq 13, 3) := by decide +kernel
theorem dX10_lines_34 : decode cX10_lines 34 = .ok (.aload_n 0, 1) := by decide +kernel
theorem dX10_lines_35 : decode cX10_lines 35 = .ok (.getfield 35, 3) := by decide +kernel
theorem dX10_lines_38 : decode cX10_lines 38 = .ok (.iload 4, 2) := by decide +kernel
theorem dX10_lines_40 : decode cX10_lines 40 = .ok (.baload, 1) := by decide +kernel
theorem dX10_lines_41 : decode cX10_lines 41 = .ok (.ifCond .ne 7, 3) := by decide +kernel
theorem dX10_lines_44 : decode cX10_lines 44 = .ok (.iconst 1, 1) := by decide +kernel
theorem dX10_lines_45 : decode cX10_lines 45 = .ok (.goto 4, 3) := by decide +kernel
theorem dX10_lines_48 : decode cX10_lines 48 = .ok (.iconst 0, 1) := by decide +kernel
theorem dX10_lines_49 : decode cX10_lines 49 = .ok (.iadd, 1) := by decide +kernel
theorem dX10_lines_50 : decode cX10_lines 50 = .ok (.istore_n 3, 1) := by decide +kernel
theorem dX10_lines_51 : decode cX10_lines 51 = .ok (.iinc 4 1, 3) := by decide +kernel
theorem dX10_lines_54 : decode cX10_lines 54 = .ok (.goto (-44), 3) := by decide +kernel
theorem dX10_lines_57 : decode cX10_lines 57 = .ok (.iload_n 3, 1) := by decide +kernel
theorem dX10_lines_58 : decode cX10_lines 58 = .ok (.ireturn, 1) := by decide +kernel
theorem dX10_longest_0 : decode cX10_longest 0 = .ok (.aload_n 0, 1) := by decide +kernel
theorem dX10_longest_1 : decode cX10_longest 1 = .ok (.iload_n 1, 1) := by decide +kernel
theorem dX10_longest_2 : decode cX10_longest 2 = .ok (.invokevirtual 165, 3) := by decide +kernel
theorem dX10_longest_5 : decode cX10_longest 5 = .ok (.iconst 0, 1) := by decide +kernel
theorem dX10_longest_6 : decode cX10_longest 6 = .ok (.istore_n 2, 1) := by decide +kernel
theorem dX10_longest_7 : decode cX10_longest 7 = .ok (.iconst 0, 1) := by decide +kernel
theorem dX10_longest_8 : decode cX10_longest 8 = .ok (.istore_n 3, 1) := by decide +kernel
theorem dX10_longest_9 : decode cX10_longest 9 = .ok (.iload_n 3, 1) := by decide +kernel
theorem dX10_longest_10 : decode cX10_longest 10 = .ok (.bipush 84, 2) := by decide +kernel
theorem dX10_longest_12 : decode cX10_longest 12 = .ok (.if_icmp .ge 30, 3) := by decide +kernel
theorem dX10_longest_15 : decode cX10_longest 15 = .ok (.aload_n 0, 1) := by decide +kernel
theorem dX10_longest_16 : decode cX10_longest 16 = .ok (.getfield 32, 3) := by decide +kernel
theorem dX10_longest_19 : decode cX10_longest 19 = .ok (.iload_n 3, 1) := by decide +kernel
theorem dX10_longest_20 : decode cX10_longest 20 = .ok (.iaload, 1) := by decide +kernel
theorem dX10_longest_21 : decode cX10_longest 21 = .ok (.iload_n 2, 1) := by decide +kernel
theorem dX10_longest_22 : decode cX10_longest 22 = .ok (.if_icmp .le 12, 3) := by decide +kernel
theorem dX10_longest_25 : decode cX10_longest 25 = .ok (.aload_n 0, 1) := by decide +kernel
theorem dX10_longest_26 : decode cX10_longest 26 = .ok (.getfield 32, 3) := by decide +kernel
theorem dX10_longest_29 : decode cX10_longest 29 = .ok (.iload_n 3, 1) := by decide +kernel
theorem dX10_longest_30 : decode cX10_longest 30 = .ok (.iaload, 1) := by decide +kernel
theorem dX10_longest_31 : decode cX10_longest 31 = .ok (.goto 4, 3) := by decide +kernel
theorem dX10_longest_34 : decode cX10_longest 34 = .ok (.iload_n 2, 1) := by decide +kernel
theorem dX10_longest_35 : decode cX10_longest 35 = .ok (.istore_n 2, 1) := by decide +kernel
theorem dX10_longest_36 : decode cX10_longest 36 = .ok (.iinc 3 1, 3) := by decide +kernel
theorem dX10_longest_39 : decode cX10_longest 39 = .ok (.goto (-30), 3) := by decide +kernel
theorem dX10_longest_42 : decode cX10_longest 42 = .ok (.iload_n 2, 1) := by decide +kernel
theorem dX10_longest_43 : decode cX10_longest 43 = .ok (.ireturn, 1) := by decide +kernel
theorem dX10_regions_0 : decode cX10_regions 0 = .ok (.iconst 1, 1) := by decide +kernel
theorem dX10_regions_1 : decode cX10_regions 1 = .ok (.istore_n 2, 1) := by decide +kernel
theorem dX10_regions_2 : decode cX10_regions 2 = .ok (.iload_n 2, 1) := by decide +kernel
theorem dX10_regions_3 : decode cX10_regions 3 = .ok (.ifCond .eq 157, 3) := by decide +kernel
theorem dX10_regions_6 : decode cX10_regions 6 = .ok (.iconst 0, 1) := by decide +kernel
theorem dX10_regions_7 : decode cX10_regions 7 = .ok (.istore_n 2, 1) := by decide +kernel
theorem dX10_regions_8 : decode cX10_regions 8 = .ok (.iconst 0, 1) := by decide +kernel
theorem dX10_regions_9 : decode cX10_regions 9 = .ok (.istore_n 3, 1) := by decide +kernel
theorem dX10_regions_10 : decode cX10_regions 10 = .ok (.iload_n 3, 1) := by decide +kernel
theorem dX10_regions_11 : decode cX10_regions 11 = .ok (.bipush 49, 2) := by decide +kernel
theorem dX10_regions_13 : decode cX10_regions 13 = .ok (.if_icmp .ge 144, 3) := by decide +kernel
theorem dX10_regions_16 : decode cX10_regions 16 = .ok (.iconst 0, 1) := by decide +kernel
theorem dX10_regions_17 : decode cX10_regions 17 = .ok (.istore 4, 2) := by decide +kernel
theorem dX10_regions_19 : decode cX10_regions 19 = .ok (.iload 4, 2) := by decide +kernel
theorem dX10_regions_21 : decode cX10_regions 21 = .ok (.bipush 49, 2) := by decide +kernel
theorem dX10_regions_23 : decode cX10_regions 23 = .ok (.if_icmp .ge 128, 3) := by decide +kernel
theorem dX10_regions_26 : decode cX10_regions 26 = .ok (.aload_n 0, 1) := by decide +kernel
theorem dX10_regions_27 : decode cX10_regions 27 = .ok (.getfield 38, 3) := by decide +kernel
theorem dX10_regions_30 : decode cX10_regions 30 = .ok (.iload_n 3, 1) := by decide +kernel
theorem dX10_regions_31 : decode cX10_regions 31 = .ok (.iaload, 1) := by decide +kernel
theorem dX10_regions_32 : decode cX10_regions 32 = .ok (.iconst (-1), 1) := by decide +kernel
theorem dX10_regions_33 : decode cX10_regions 33 = .ok (.if_icmp .eq 118, 3) := by decide +kernel
theorem dX10_regions_36 : decode cX10_regions 36 = .ok (.iload_n 3, 1) := by decide +kernel
theorem dX10_regions_37 : decode cX10_regions 37 = .ok (.bipush 7, 2) := by decide +kernel
theorem dX10_regions_39 : decode cX10_regions 39 = .ok (.idiv, 1) := by decide +kernel
theorem dX10_regions_40 : decode cX10_regions 40 = .ok (.iload 4, 2) := by decide +kernel
theorem dX10_regions_42 : decode cX10_regions 42 = .ok (.bipush 7, 2) := by decide +kernel
theorem dX10_regions_44 : decode cX10_regions 44 = .ok (.idiv, 1) := by decide +kernel
theorem dX10_regions_45 : decode cX10_regions 45 = .ok (.isub, 1) := by decide +kernel
theorem dX10_regions_46 : decode cX10_regions 46 = .ok (.invokestatic 63, 3) := by decide +kernel
theorem dX10_regions_49 : decode cX10_regions 49 = .ok (.istore 5, 2) := by decide +kernel
theorem dX10_regions_51 : decode cX10_regions 51 = .ok (.iload_n 3, 1) := by decide +kernel
theorem dX10_regions_52 : decode cX10_regions 52 = .ok (.bipush 7, 2) := by decide +kernel
theorem dX10_regions_54 : decode cX10_regions 54 = .ok (.irem, 1) := by decide +kernel
theorem dX10_regions_55 : decode cX10_regions 55 = .ok (.iload 4, 2) := by decide +kernel
theorem dX10_regions_57 : decode cX10_regions 57 = .ok (.bipush 7, 2) := by decide +kernel
theorem dX10_regions_59 : decode cX10_regions 59 = .ok (.irem, 1) := by decide +kernel
theorem dX10_regions_60 : decode cX10_regions 60 = .ok (.isub, 1) := by decide +kernel
theorem dX10_regions_61 : decode cX10_regions 61 = .ok (.invokestatic 63, 3) := by decide +kernel
theorem dX10_regions_64 : decode cX10_regions 64 = .ok (.istore 6, 2) := by decide +kernel
theorem dX10_regions_66 : decode cX10_regions 66 = .ok (.iload 5, 2) := by decide +kernel
theorem dX10_regions_68 : decode cX10_regions 68 = .ok (.iload 6, 2) := by decide +kernel
theorem dX10_regions_70 : decode cX10_regions 70 = .ok (.iadd, 1) := by decide +kernel
theorem dX10_regions_71 : decode cX10_regions 71 = .ok (.iconst 1, 1) := by decide +kernel
theorem dX10_regions_72 : decode cX10_regions 72 = .ok (.if_icmp .eq 19, 3) := by decide +kernel
theorem dX10_regions_75 : decode cX10_regions 75 = .ok (.iload_n 1, 1) := by decide +kernel
theorem dX10_regions_76 : decode cX10_regions 76 = .ok (.ifCond .eq 19, 3) := by decide +kernel
theorem dX10_regions_79 : decode cX10_regions 79 = .ok (.iload 5, 2) := by decide +kernel
theorem dX10_regions_81 : decode cX10_regions 81 = .ok (.iconst 1, 1) := by decide +kernel
theorem dX10_regions_82 : decode cX10_regions 82 = .ok (.if_icmp .ne 13, 3) := by decide +kernel
theorem dX10_regions_85 : decode cX10_regions 85 = .ok (.iload 6, 2) := by decide +kernel
theorem dX10_regions_87 : decode cX10_regions 87 = .ok (.iconst 1, 1) := by decide +kernel
theorem dX10_regions_88 : decode cX10_regions 88 = .ok (.if_icmp .ne 7, 3) := by decide +kernel
theorem dX10_regions_91 : decode cX10_regions 91 = .ok (.iconst 1, 1) := by decide +kernel
theorem dX10_regions_92 : decode cX10_regions 92 = .ok (.goto 4, 3) := by decide +kernel
theorem dX10_regions_95 : decode cX10_regions 95 = .ok (.iconst 0, 1) := by decide +kernel
theorem dX10_regions_96 : decode cX10_regions 96 = .ok (.istore 7, 2) := by decide +kernel
theorem dX10_regions_98 : decode cX10_regions 98 = .ok (.iload 7, 2) := by decide +kernel
theorem dX10_regions_100 : decode cX10_regions 100 = .ok (.ifCond .eq 45, 3) := by decide +kernel
theorem dX10_regions_103 : decode cX10_regions 103 = .ok (.aload_n 0, 1) := by decide +kernel
theorem dX10_regions_104 : decode cX10_regions 104 = .ok (.getfield 38, 3) := by decide +kernel
theorem dX10_regions_107 : decode cX10_regions 107 = .ok (.iload 4, 2) := by decide +kernel
theorem dX10_regions_109 : decode cX10_regions 109 = .ok (.iaload, 1) := by decide +kernel
theorem dX10_regions_110 : decode cX10_regions 110 = .ok (.iconst (-1), 1) := by decide +kernel
theorem dX10_regions_111 : decode cX10_regions 111 = .ok (.if_icmp .eq 34, 3) := by decide +kernel
theorem dX10_regions_114 : decode cX10_regions 114 = .ok (.aload_n 0, 1) := by decide +kernel
theorem dX10_regions_115 : decode cX10_regions 115 = .ok (.getfield 38, 3) := by decide +kernel
theorem dX10_regions_118 : decode cX10_regions 118 = .ok (.iload 4, 2) := by decide +kernel
theorem dX10_regions_120 : decode cX10_regions 120 = .ok (.iaload, 1) := by decide +kernel
theorem dX10_regions_121 : decode cX10_regions 121 = .ok (.aload_n 0, 1) := by decide +kernel
theorem dX10_regions_122 : decode cX10_regions 122 = .ok (.getfield 38, 3) := by decide +kernel
theorem dX10_regions_125 : decode cX10_regions 125 = .ok (.iload_n 3, 1) := by decide +kernel
theorem dX10_regions_126 : decode cX10_regions 126 = .ok (.iaload, 1) := by decide +kernel
theorem dX10_regions_127 : decode cX10_regions 127 = .ok (.if_icmp .ge 18, 3) := by decide +kernel
theorem dX10_regions_130 : decode cX10_regions 130 = .ok (.aload_n 0, 1) := by decide +kernel
theorem dX10_regions_131 : decode cX10_regions 131 = .ok (.getfield 38, 3) := by decide +kernel
theorem dX10_regions_134 : decode cX10_regions 134 = .ok (.iload_n 3, 1) := by decide +kernel
theorem dX10_regions_135 : decode cX10_regions 135 = .ok (.aload_n 0, 1) := by decide +kernel
theorem dX10_regions_136 : decode cX10_regions 136 = .ok (.getfield 38, 3) := by decide +kernel
theorem dX10_regions_139 : decode cX10_regions 139 = .ok (.iload 4, 2) := by decide +kernel
theorem dX10_regions_141 : decode cX10_regions 141 = .ok (.iaload, 1) := by decide +kernel
theorem dX10_regions_142 : decode cX10_regions 142 = .ok (.iastore, 1) := by decide +kernel
theorem dX10_regions_143 : decode cX10_regions 143 = .ok (.iconst 1, 1) := by decide +kernel
theorem dX10_regions_144 : decode cX10_regions 144 = .ok (.istore_n 2, 1) := by decide +kernel
theorem dX10_regions_145 : decode cX10_regions 145 = .ok (.iinc 4 1, 3) := by decide +kernel
theorem dX10_regions_148 : decode cX10_regions 148 = .ok (.goto (-129), 3) := by decide +kernel
theorem dX10_regions_151 : decode cX10_regions 151 = .ok (.iinc 3 1, 3) := by decide +kernel
theorem dX10_regions_154 : decode cX10_regions 154 = .ok (.goto (-144), 3) := by decide +kernel
theorem dX10_regions_157 : decode cX10_regions 157 = .ok (.goto (-155), 3) := by decide +kernel
theorem dX10_regions_160 : decode cX10_regions 160 = .ok (.iconst 0, 1) := by decide +kernel
theorem dX10_regions_161 : decode cX10_regions 161 = .ok (.istore_n 3, 1) := by decide +kernel
theorem dX10_regions_162 : decode cX10_regions 162 = .ok (.iconst 0, 1) := by decide +kernel
theorem dX10_regions_163 : decode cX10_regions 163 = .ok (.istore 4, 2) := by decide +kernel
theorem dX10_regions_165 : decode cX10_regions 165 = .ok (.iload 4, 2) := by decide +kernel
theorem dX10_regions_167 : decode cX10_regions 167 = .ok (.bipush 49, 2) := by decide +kernel
theorem dX10_regions_169 : decode cX10_regions 169 = .ok (.if_icmp .ge 29, 3) := by decide +kernel
theorem dX10_regions_172 : decode cX10_regions 172 = .ok (.iload_n 3, 1) := by decide +kernel
theorem dX10_regions_173 : decode cX10_regions 173 = .ok (.aload_n 0, 1) := by decide +kernel
theorem dX10_regions_174 : decode cX10_regions 174 = .ok (.getfield 38, 3) := by decide +kernel
theorem dX10_regions_177 : decode cX10_regions 177 = .ok (.iload 4, 2) := by decide +kernel
theorem dX10_regions_179 : decode cX10_regions 179 = .ok (.iaload, 1) := by decide +kernel
theorem dX10_regions_180 : decode cX10_regions 180 = .ok (.iload 4, 2) := by decide +kernel
theorem dX10_regions_182 : decode cX10_regions 182 = .ok (.if_icmp .ne 7, 3) := by decide +kernel
theorem dX10_regions_185 : decode cX10_regions 185 = .ok (.iconst 1, 1) := by decide +kernel
theorem dX10_regions_186 : decode cX10_regions 186 = .ok (.goto 4, 3) := by decide +kernel
theorem dX10_regions_189 : decode cX10_regions 189 = .ok (.iconst 0, 1) := by decide +kernel
theorem dX10_regions_190 : decode cX10_regions 190 = .ok (.iadd, 1) := by decide +kernel
theorem dX10_regions_191 : decode cX10_regions 191 = .ok (.istore_n 3, 1) := by decide +kernel
theorem dX10_regions_192 : decode cX10_regions 192 = .ok (.iinc 4 1, 3) := by decide +kernel
theorem dX10_regions_195 : decode cX10_regions 195 = .ok (.goto (-30), 3) := by decide +kernel
theorem dX10_regions_198 : decode cX10_regions 198 = .ok (.iload_n 3, 1) := by decide +kernel
theorem dX10_regions_199 : decode cX10_regions 199 = .ok (.ireturn, 1) := by decide +kernel
theorem dX10_regionsOf_0 : decode cX10_regionsOf 0 = .ok (.iconst 0, 1) := by decide +kernel
theorem dX10_regionsOf_1 : decode cX10_regionsOf 1 = .ok (.istore_n 3, 1) := by decide +kernel
theorem dX10_regionsOf_2 : decode cX10_regionsOf 2 = .ok (.iload_n 3, 1) := by decide +kernel
theorem dX10_regionsOf_3 : decode cX10_regionsOf 3 = .ok (.bipush 49, 2) := by decide +kernel
theorem dX10_regionsOf_5 : decode cX10_regionsOf 5 = .ok (.if_icmp .ge 30, 3) := by decide +kernel
theorem dX10_regionsOf_8 : decode cX10_regionsOf 8 = .ok (.aload_n 0, 1) := by decide +kernel
theorem dX10_regionsOf_9 : decode cX10_regionsOf 9 = .ok (.getfield 38, 3) := by decide +kernel
theorem dX10_regionsOf_12 : decode cX10_regionsOf 12 = .ok (.iload_n 3, 1) := by decide +kernel
theorem dX10_regionsOf_13 : decode cX10_regionsOf 13 = .ok (.aload_n 0, 1) := by decide +kernel
theorem dX10_regionsOf_14 : decode cX10_regionsOf 14 = .ok (.iload_n 3, 1) := by decide +kernel
theorem dX10_regionsOf_15 : decode cX10_regionsOf 15 = .ok (.iload_n 1, 1) := by decide +kernel
theorem dX10_regionsOf_16 : decode cX10_regionsOf 16 = .ok (.invokevirtual 129, 3) := by decide +kernel
theorem dX10_regionsOf_19 : decode cX10_regionsOf 19 = .ok (.iload_n 2, 1) := by decide +kernel
theorem dX10_regionsOf_20 : decode cX10_regionsOf 20 = .ok (.if_icmp .ne 7, 3) := by decide +kernel
theorem dX10_regionsOf_23 : decode cX10_regionsOf 23 = .ok (.iload_n 3, 1) := by decide +kernel
theorem dX10_regionsOf_24 : decode cX10_regionsOf 24 = .ok (.goto 4, 3) := by decide +kernel
theorem dX10_regionsOf_27 : decode cX10_regionsOf 27 = .ok (.iconst (-1), 1) := by decide +kernel
theorem dX10_regionsOf_28 : decode cX10_regionsOf 28 = .ok (.iastore, 1) := by decide +kernel
theorem dX10_regionsOf_29 : decode cX10_regionsOf 29 = .ok (.iinc 3 1, 3) := by decide +kernel
theorem dX10_regionsOf_32 : decode cX10_regionsOf 32 = .ok (.goto (-30), 3) := by decide +kernel
theorem dX10_regionsOf_35 : decode cX10_regionsOf 35 = .ok (.aload_n 0, 1) := by decide +kernel
theorem dX10_regionsOf_36 : decode cX10_regionsOf 36 = .ok (.iload_n 2, 1) := by decide +kernel
theorem dX10_regionsOf_37 : decode cX10_regionsOf 37 = .ok (.ifCond .ne 7, 3) := by decide +kernel
theorem dX10_regionsOf_40 : decode cX10_regionsOf 40 = .ok (.iconst 1, 1) := by decide +kernel
theorem dX10_regionsOf_41 : decode cX10_regionsOf 41 = .ok (.goto 4, 3) := by decide +kernel
theorem dX10_regionsOf_44 : decode cX10_regionsOf 44 = .ok (.iconst 0, 1) := by decide +kernel
theorem dX10_regionsOf_45 : decode cX10_regionsOf 45 = .ok (.invokevirtual 168, 3) := by decide +kernel
theorem dX10_regionsOf_48 : decode cX10_regionsOf 48 = .ok (.ireturn, 1) := by decide +kernel
theorem dX10_crossingsByEdges_0 : decode cX10_crossingsByEdges 0 = .ok (.aload_n 0, 1) := by decide +kernel
theorem dX10_crossingsByEdges_1 : decode cX10_crossingsByEdges 1 = .ok (.iload_n 1, 1) := by decide +kernel
theorem dX10_crossingsByEdges_2 : decode cX10_crossingsByEdges 2 = .ok (.invokevirtual 132, 3) := by decide +kernel
theorem dX10_crossingsByEdges_5 : decode cX10_crossingsByEdges 5 = .ok (.ifCond .eq 11, 3) := by decide +kernel
theorem dX10_crossingsByEdges_8 : decode cX10_crossingsByEdges 8 = .ok (.aload_n 0, 1) := by decide +kernel
theorem dX10_crossingsByEdges_9 : decode cX10_crossingsByEdges 9 = .ok (.iload_n 1, 1) := by decide +kernel
theorem dX10_crossingsByEdges_10 : decode cX10_crossingsByEdges 10 = .ok (.invokevirtual 171, 3) := by decide +kernel
theorem dX10_crossingsByEdges_13 : decode cX10_crossingsByEdges 13 = .ok (.goto 4, 3) := by decide +kernel
theorem dX10_crossingsByEdges_16 : decode cX10_crossingsByEdges 16 = .ok (.iconst 0, 1) := by decide +kernel
theorem dX10_crossingsByEdges_17 : decode cX10_crossingsByEdges 17 = .ok (.ireturn, 1) := by decide +kernel
theorem dX10_crossingsByPieces_0 : decode cX10_crossingsByPieces 0 = .ok (.aload_n 0, 1) := by decide +kernel
theorem dX10_crossingsByPieces_1 : decode cX10_crossingsByPieces 1 = .ok (.iload_n 1, 1) := by decide +kernel
theorem dX10_crossingsByPieces_2 : decode cX10_crossingsByPieces 2 = .ok (.invokevirtual 132, 3) := by decide +kernel
theorem dX10_crossingsByPieces_5 : decode cX10_crossingsByPieces 5 = .ok (.ifCond .eq 11, 3) := by decide +kernel
theorem dX10_crossingsByPieces_8 : decode cX10_crossingsByPieces 8 = .ok (.aload_n 0, 1) := by decide +kernel
theorem dX10_crossingsByPieces_9 : decode cX10_crossingsByPieces 9 = .ok (.iload_n 1, 1) := by decide +kernel
theorem dX10_crossingsByPieces_10 : decode cX10_crossingsByPieces 10 = .ok (.invokevirtual 171, 3) := by decide +kernel
theorem dX10_crossingsByPieces_13 : decode cX10_crossingsByPieces 13 = .ok (.goto 4, 3) := by decide +kernel
theorem dX10_crossingsByPieces_16 : decode cX10_crossingsByPieces 16 = .ok (.iconst 0, 1) := by decide +kernel
theorem dX10_crossingsByPieces_17 : decode cX10_crossingsByPieces 17 = .ok (.ireturn, 1) := by decide +kernel
theorem dX10_piecesIn_0 : decode cX10_piecesIn 0 = .ok (.aload_n 0, 1) := by decide +kernel
theorem dX10_piecesIn_1 : decode cX10_piecesIn 1 = .ok (.iconst 0, 1) := by decide +kernel
theorem dX10_piecesIn_2 : decode cX10_piecesIn 2 = .ok (.putfield 44, 3) := by decide +kernel
theorem dX10_piecesIn_5 : decode cX10_piecesIn 5 = .ok (.iload_n 1, 1) := by decide +kernel
theorem dX10_piecesIn_6 : decode cX10_piecesIn 6 = .ok (.iconst 0, 1) := by decide +kernel
theorem dX10_piecesIn_7 : decode cX10_piecesIn 7 = .ok (.iconst 5, 1) := by decide +kernel
theorem dX10_piecesIn_8 : decode cX10_piecesIn 8 = .ok (.invokestatic 48, 3) := by decide +kernel
theorem dX10_piecesIn_11 : decode cX10_piecesIn 11 = .ok (.ifCond .eq 12, 3) := by decide +kernel
theorem dX10_piecesIn_14 : decode cX10_piecesIn 14 = .ok (.iload_n 2, 1) := by decide +kernel
theorem dX10_piecesIn_15 : decode cX10_piecesIn 15 = .ok (.iconst 0, 1) := by decide +kernel
theorem dX10_piecesIn_16 : decode cX10_piecesIn 16 = .ok (.iconst 5, 1) := by decide +kernel
theorem dX10_piecesIn_17 : decode cX10_piecesIn 17 = .ok (.invokestatic 48, 3) := by decide +kernel
theorem dX10_piecesIn_20 : decode cX10_piecesIn 20 = .ok (.ifCond .ne 9, 3) := by decide +kernel
theorem dX10_piecesIn_23 : decode cX10_piecesIn 23 = .ok (.aload_n 0, 1) := by decide +kernel
theorem dX10_piecesIn_24 : decode cX10_piecesIn 24 = .ok (.iconst 1, 1) := by decide +kernel
theorem dX10_piecesIn_25 : decode cX10_piecesIn 25 = .ok (.invokevirtual 90, 3) := by decide +kernel
theorem dX10_piecesIn_28 : decode cX10_piecesIn 28 = .ok (.ireturn, 1) := by decide +kernel
theorem dX10_piecesIn_29 : decode cX10_piecesIn 29 = .ok (.iload_n 3, 1) := by decide +kernel
theorem dX10_piecesIn_30 : decode cX10_piecesIn 30 = .ok (.iconst 0, 1) := by decide +kernel
theorem dX10_piecesIn_31 : decode cX10_piecesIn 31 = .ok (.bipush 98, 2) := by decide +kernel
theorem dX10_piecesIn_33 : decode cX10_piecesIn 33 = .ok (.invokestatic 48, 3) := by decide +kernel
theorem dX10_piecesIn_36 : decode cX10_piecesIn 36 = .ok (.ifCond .eq 13, 3) := by decide +kernel
theorem dX10_piecesIn_39 : decode cX10_piecesIn 39 = .ok (.aload_n 0, 1) := by decide +kernel
theorem dX10_piecesIn_40 : decode cX10_piecesIn 40 = .ok (.iload_n 1, 1) := by decide +kernel
theorem dX10_piecesIn_41 : decode cX10_piecesIn 41 = .ok (.iload_n 2, 1) := by decide +kernel
theorem dX10_piecesIn_42 : decode cX10_piecesIn 42 = .ok (.iload_n 3, 1) := by decide +kernel
theorem dX10_piecesIn_43 : decode cX10_piecesIn 43 = .ok (.invokevirtual 151, 3) := by decide +kernel
theorem dX10_piecesIn_46 : decode cX10_piecesIn 46 = .ok (.goto 8, 3) := by decide +kernel
theorem dX10_piecesIn_49 : decode cX10_piecesIn 49 = .ok (.aload_n 0, 1) := by decide +kernel
theorem dX10_piecesIn_50 : decode cX10_piecesIn 50 = .ok (.iconst 2, 1) := by decide +kernel
theorem dX10_piecesIn_51 : decode cX10_piecesIn 51 = .ok (.invokevirtual 90, 3) := by decide +kernel
theorem dX10_piecesIn_54 : decode cX10_piecesIn 54 = .ok (.ireturn, 1) := by decide +kernel
theorem dX10_linesByTracing_0 : decode cX10_linesByTracing 0 = .ok (.aload_n 0, 1) := by decide +kernel
theorem dX10_linesByTracing_1 : decode cX10_linesByTracing 1 = .ok (.iload_n 1, 1) := by decide +kernel
theorem dX10_linesByTracing_2 : decode cX10_linesByTracing 2 = .ok (.invokevirtual 132, 3) := by decide +kernel
theorem dX10_linesByTracing_5 : decode cX10_linesByTracing 5 = .ok (.ifCond .eq 12, 3) := by decide +kernel
theorem dX10_linesByTracing_8 : decode cX10_linesByTracing 8 = .ok (.aload_n 0, 1) := by decide +kernel
theorem dX10_linesByTracing_9 : decode cX10_linesByTracing 9 = .ok (.iload_n 1, 1) := by decide +kernel
theorem dX10_linesByTracing_10 : decode cX10_linesByTracing 10 = .ok (.iconst 0, 1) := by decide +kernel
theorem dX10_linesByTracing_11 : decode cX10_linesByTracing 11 = .ok (.invokevirtual 174, 3) := by decide +kernel
theorem dX10_linesByTracing_14 : decode cX10_linesByTracing 14 = .ok (.goto 4, 3) := by decide +kernel
theorem dX10_linesByTracing_17 : decode cX10_linesByTracing 17 = .ok (.iconst 0, 1) := by decide +kernel
theorem dX10_linesByTracing_18 : decode cX10_linesByTracing 18 = .ok (.ireturn, 1) := by decide +kernel
theorem dX10_linesByRegions_0 : decode cX10_linesByRegions 0 = .ok (.aload_n 0, 1) := by decide +kernel
theorem dX10_linesByRegions_1 : decode cX10_linesByRegions 1 = .ok (.iload_n 1, 1) := by decide +kernel
theorem dX10_linesByRegions_2 : decode cX10_linesByRegions 2 = .ok (.invokevirtual 132, 3) := by decide +kernel
theorem dX10_linesByRegions_5 : decode cX10_linesByRegions 5 = .ok (.ifCond .eq 12, 3) := by decide +kernel
theorem dX10_linesByRegions_8 : decode cX10_linesByRegions 8 = .ok (.aload_n 0, 1) := by decide +kernel
theorem dX10_linesByRegions_9 : decode cX10_linesByRegions 9 = .ok (.iload_n 1, 1) := by decide +kernel
theorem dX10_linesByRegions_10 : decode cX10_linesByRegions 10 = .ok (.iconst 0, 1) := by decide +kernel
theorem dX10_linesByRegions_11 : decode cX10_linesByRegions 11 = .ok (.invokevirtual 174, 3) := by decide +kernel
theorem dX10_linesByRegions_14 : decode cX10_linesByRegions 14 = .ok (.goto 4, 3) := by decide +kernel
theorem dX10_linesByRegions_17 : decode cX10_linesByRegions 17 = .ok (.iconst 0, 1) := by decide +kernel
theorem dX10_linesByRegions_18 : decode cX10_linesByRegions 18 = .ok (.ireturn, 1) := by decide +kernel
theorem dX10_closedLines_0 : decode cX10_closedLines 0 = .ok (.aload_n 0, 1) := by decide +kernel
theorem dX10_closedLines_1 : decode cX10_closedLines 1 = .ok (.iload_n 1, 1) := by decide +kernel
theorem dX10_closedLines_2 : decode cX10_closedLines 2 = .ok (.invokevirtual 132, 3) := by decide +kernel
theorem dX10_closedLines_5 : decode cX10_closedLines 5 = .ok (.ifCond .eq 12, 3) := by decide +kernel
theorem dX10_closedLines_8 : decode cX10_closedLines 8 = .ok (.aload_n 0, 1) := by decide +kernel
theorem dX10_closedLines_9 : decode cX10_closedLines 9 = .ok (.iload_n 1, 1) := by decide +kernel
theorem dX10_closedLines_10 : decode cX10_closedLines 10 = .ok (.iconst 1, 1) := by decide +kernel
theorem dX10_closedLines_11 : decode cX10_closedLines 11 = .ok (.invokevirtual 174, 3) := by decide +kernel
theorem dX10_closedLines_14 : decode cX10_closedLines 14 = .ok (.goto 4, 3) := by decide +kernel
theorem dX10_closedLines_17 : decode cX10_closedLines 17 = .ok (.iconst 0, 1) := by decide +kernel
theorem dX10_closedLines_18 : decode cX10_closedLines 18 = .ok (.ireturn, 1) := by decide +kernel
theorem dX10_longestLine_0 : decode cX10_longestLine 0 = .ok (.aload_n 0, 1) := by decide +kernel
theorem dX10_longestLine_1 : decode cX10_longestLine 1 = .ok (.iload_n 1, 1) := by decide +kernel
theorem dX10_longestLine_2 : decode cX10_longestLine 2 = .ok (.invokevirtual 132, 3) := by decide +kernel
theorem dX10_longestLine_5 : decode cX10_longestLine 5 = .ok (.ifCond .eq 11, 3) := by decide +kernel
theorem dX10_longestLine_8 : decode cX10_longestLine 8 = .ok (.aload_n 0, 1) := by decide +kernel
theorem dX10_longestLine_9 : decode cX10_longestLine 9 = .ok (.iload_n 1, 1) := by decide +kernel
theorem dX10_longestLine_10 : decode cX10_longestLine 10 = .ok (.invokevirtual 178, 3) := by decide +kernel
theorem dX10_longestLine_13 : decode cX10_longestLine 13 = .ok (.goto 4, 3) := by decide +kernel
theorem dX10_longestLine_16 : decode cX10_longestLine 16 = .ok (.iconst 0, 1) := by decide +kernel
theorem dX10_longestLine_17 : decode cX10_longestLine 17 = .ok (.ireturn, 1) := by decide +kernel
theorem dX10_hills_0 : decode cX10_hills 0 = .ok (.aload_n 0, 1) := by decide +kernel
theorem dX10_hills_1 : decode cX10_hills 1 = .ok (.iload_n 1, 1) := by decide +kernel
theorem dX10_hills_2 : decode cX10_hills 2 = .ok (.invokevirtual 132, 3) := by decide +kernel
theorem dX10_hills_5 : decode cX10_hills 5 = .ok (.ifCond .eq 12, 3) := by decide +kernel
theorem dX10_hills_8 : decode cX10_hills 8 = .ok (.aload_n 0, 1) := by decide +kernel
theorem dX10_hills_9 : decode cX10_hills 9 = .ok (.iload_n 1, 1) := by decide +kernel
theorem dX10_hills_10 : decode cX10_hills 10 = .ok (.iconst 1, 1) := by decide +kernel
theorem dX10_hills_11 : decode cX10_hills 11 = .ok (.invokevirtual 181, 3) := by decide +kernel
theorem dX10_hills_14 : decode cX10_hills 14 = .ok (.goto 4, 3) := by decide +kernel
theorem dX10_hills_17 : decode cX10_hills 17 = .ok (.iconst 0, 1) := by decide +kernel
theorem dX10_hills_18 : decode cX10_hills 18 = .ok (.ireturn, 1) := by decide +kernel
theorem dX10_hollows_0 : decode cX10_hollows 0 = .ok (.aload_n 0, 1) := by decide +kernel
theorem dX10_hollows_1 : decode cX10_hollows 1 = .ok (.iload_n 1, 1) := by decide +kernel
theorem dX10_hollows_2 : decode cX10_hollows 2 = .ok (.invokevirtual 132, 3) := by decide +kernel
theorem dX10_hollows_5 : decode cX10_hollows 5 = .ok (.ifCond .eq 12, 3) := by decide +kernel
theorem dX10_hollows_8 : decode cX10_hollows 8 = .ok (.aload_n 0, 1) := by decide +kernel
theorem dX10_hollows_9 : decode cX10_hollows 9 = .ok (.iload_n 1, 1) := by decide +kernel
theorem dX10_hollows_10 : decode cX10_hollows 10 = .ok (.iconst 0, 1) := by decide +kernel
theorem dX10_hollows_11 : decode cX10_hollows 11 = .ok (.invokevirtual 181, 3) := by decide +kernel
theorem dX10_hollows_14 : decode cX10_hollows 14 = .ok (.goto 4, 3) := by decide +kernel
theorem dX10_hollows_17 : decode cX10_hollows 17 = .ok (.iconst 0, 1) := by decide +kernel
theorem dX10_hollows_18 : decode cX10_hollows 18 = .ok (.ireturn, 1) := by decide +kernel
theorem dX10_steps_0 : decode cX10_steps 0 = .ok (.iconst 0, 1) := by decide +kernel
theorem dX10_steps_1 : decode cX10_steps 1 = .ok (.istore_n 2, 1) := by decide +kernel
theorem dX10_steps_2 : decode cX10_steps 2 = .ok (.iload_n 1, 1) := by decide +kernel
theorem dX10_steps_3 : decode cX10_steps 3 = .ok (.istore_n 3, 1) := by decide +kernel
theorem dX10_steps_4 : decode cX10_steps 4 = .ok (.aload_n 0, 1) := by decide +kernel
theorem dX10_steps_5 : decode cX10_steps 5 = .ok (.iload_n 3, 1) := by decide +kernel
theorem dX10_steps_6 : decode cX10_steps 6 = .ok (.invokevirtual 74, 3) := by decide +kernel
theorem dX10_steps_9 : decode cX10_steps 9 = .ok (.istore 4, 2) := by decide +kernel
theorem dX10_steps_11 : decode cX10_steps 11 = .ok (.iload 4, 2) := by decide +kernel
theorem dX10_steps_13 : decode cX10_steps 13 = .ok (.iconst (-1), 1) := by decide +kernel
theorem dX10_steps_14 : decode cX10_steps 14 = .ok (.if_icmp .eq 19, 3) := by decide +kernel
theorem dX10_steps_17 : decode cX10_steps 17 = .ok (.iload 4, 2) := by decide +kernel
theorem dX10_steps_19 : decode cX10_steps 19 = .ok (.istore_n 3, 1) := by decide +kernel
theorem dX10_steps_20 : decode cX10_steps 20 = .ok (.aload_n 0, 1) := by decide +kernel
theorem dX10_steps_21 : decode cX10_steps 21 = .ok (.iload_n 3, 1) := by decide +kernel
theorem dX10_steps_22 : decode cX10_steps 22 = .ok (.invokevirtual 74, 3) := by decide +kernel
theorem dX10_steps_25 : decode cX10_steps 25 = .ok (.istore 4, 2) := by decide +kernel
theorem dX10_steps_27 : decode cX10_steps 27 = .ok (.iinc 2 1, 3) := by decide +kernel
theorem dX10_steps_30 : decode cX10_steps 30 = .ok (.goto (-19), 3) := by decide +kernel
theorem dX10_steps_33 : decode cX10_steps 33 = .ok (.iload_n 2, 1) := by decide +kernel
theorem dX10_steps_34 : decode cX10_steps 34 = .ok (.ireturn, 1) := by decide +kernel
theorem dX10_sink_0 : decode cX10_sink 0 = .ok (.iload_n 1, 1) := by decide +kernel
theorem dX10_sink_1 : decode cX10_sink 1 = .ok (.istore_n 2, 1) := by decide +kernel
theorem dX10_sink_2 : decode cX10_sink 2 = .ok (.aload_n 0, 1) := by decide +kernel
theorem dX10_sink_3 : decode cX10_sink 3 = .ok (.iload_n 2, 1) := by decide +kernel
theorem dX10_sink_4 : decode cX10_sink 4 = .ok (.invokevirtual 74, 3) := by decide +kernel
theorem dX10_sink_7 : decode cX10_sink 7 = .ok (.istore_n 3, 1) := by decide +kernel
theorem dX10_sink_8 : decode cX10_sink 8 = .ok (.iload_n 3, 1) := by decide +kernel
theorem dX10_sink_9 : decode cX10_sink 9 = .ok (.iconst (-1), 1) := by decide +kernel
theorem dX10_sink_10 : decode cX10_sink 10 = .ok (.if_icmp .eq 14, 3) := by decide +kernel
theorem dX10_sink_13 : decode cX10_sink 13 = .ok (.iload_n 3, 1) := by decide +kernel
theorem dX10_sink_14 : decode cX10_sink 14 = .ok (.istore_n 2, 1) := by decide +kernel
theorem dX10_sink_15 : decode cX10_sink 15 = .ok (.aload_n 0, 1) := by decide +kernel
theorem dX10_sink_16 : decode cX10_sink 16 = .ok (.iload_n 2, 1) := by decide +kernel
theorem dX10_sink_17 : decode cX10_sink 17 = .ok (.invokevirtual 74, 3) := by decide +kernel
theorem dX10_sink_20 : decode cX10_sink 20 = .ok (.istore_n 3, 1) := by decide +kernel
theorem dX10_sink_21 : decode cX10_sink 21 = .ok (.goto (-13), 3) := by decide +kernel
theorem dX10_sink_24 : decode cX10_sink 24 = .ok (.iload_n 2, 1) := by decide +kernel
theorem dX10_sink_25 : decode cX10_sink 25 = .ok (.ireturn, 1) := by decide +kernel
theorem dX10_flow_0 : decode cX10_flow 0 = .ok (.iconst 0, 1) := by decide +kernel
theorem dX10_flow_1 : decode cX10_flow 1 = .ok (.istore_n 2, 1) := by decide +kernel
theorem dX10_flow_2 : decode cX10_flow 2 = .ok (.iconst 0, 1) := by decide +kernel
theorem dX10_flow_3 : decode cX10_flow 3 = .ok (.istore_n 3, 1) := by decide +kernel
theorem dX10_flow_4 : decode cX10_flow 4 = .ok (.iload_n 3, 1) := by decide +kernel
theorem dX10_flow_5 : decode cX10_flow 5 = .ok (.bipush 49, 2) := by decide +kernel
theorem dX10_flow_7 : decode cX10_flow 7 = .ok (.if_icmp .ge 49, 3) := by decide +kernel
theorem dX10_flow_10 : decode cX10_flow 10 = .ok (.iload_n 3, 1) := by decide +kernel
theorem dX10_flow_11 : decode cX10_flow 11 = .ok (.istore 4, 2) := by decide +kernel
theorem dX10_flow_13 : decode cX10_flow 13 = .ok (.iload 4, 2) := by decide +kernel
theorem dX10_flow_15 : decode cX10_flow 15 = .ok (.iload_n 1, 1) := by decide +kernel
theorem dX10_flow_16 : decode cX10_flow 16 = .ok (.if_icmp .eq 20, 3) := by decide +kernel
theorem dX10_flow_19 : decode cX10_flow 19 = .ok (.iload 4, 2) := by decide +kernel
theorem dX10_flow_21 : decode cX10_flow 21 = .ok (.iconst (-1), 1) := by decide +kernel
theorem dX10_flow_22 : decode cX10_flow 22 = .ok (.if_icmp .eq 14, 3) := by decide +kernel
theorem dX10_flow_25 : decode cX10_flow 25 = .ok (.aload_n 0, 1) := by decide +kernel
theorem dX10_flow_26 : decode cX10_flow 26 = .ok (.iload 4, 2) := by decide +kernel
theorem dX10_flow_28 : decode cX10_flow 28 = .ok (.invokevirtual 74, 3) := by decide +kernel
theorem dX10_flow_31 : decode cX10_flow 31 = .ok (.istore 4, 2) := by decide +kernel
theorem dX10_flow_33 : decode cX10_flow 33 = .ok (.goto (-20), 3) := by decide +kernel
theorem dX10_flow_36 : decode cX10_flow 36 = .ok (.iload_n 2, 1) := by decide +kernel
theorem dX10_flow_37 : decode cX10_flow 37 = .ok (.iload 4, 2) := by decide +kernel
theorem dX10_flow_39 : decode cX10_flow 39 = .ok (.iload_n 1, 1) := by decide +kernel
theorem dX10_flow_40 : decode cX10_flow 40 = .ok (.if_icmp .ne 7, 3) := by decide +kernel
theorem dX10_flow_43 : decode cX10_flow 43 = .ok (.iconst 1, 1) := by decide +kernel
theorem dX10_flow_44 : decode cX10_flow 44 = .ok (.goto 4, 3) := by decide +kernel
theorem dX10_flow_47 : decode cX10_flow 47 = .ok (.iconst 0, 1) := by decide +kernel
theorem dX10_flow_48 : decode cX10_flow 48 = .ok (.iadd, 1) := by decide +kernel
theorem dX10_flow_49 : decode cX10_flow 49 = .ok (.istore_n 2, 1) := by decide +kernel
theorem dX10_flow_50 : decode cX10_flow 50 = .ok (.iinc 3 1, 3) := by decide +kernel
theorem dX10_flow_53 : decode cX10_flow 53 = .ok (.goto (-49), 3) := by decide +kernel
theorem dX10_flow_56 : decode cX10_flow 56 = .ok (.iload_n 2, 1) := by decide +kernel
theorem dX10_flow_57 : decode cX10_flow 57 = .ok (.ireturn, 1) := by decide +kernel
theorem dX10_basin_0 : decode cX10_basin 0 = .ok (.aload_n 0, 1) := by decide +kernel
theorem dX10_basin_1 : decode cX10_basin 1 = .ok (.iload_n 1, 1) := by decide +kernel
theorem dX10_basin_2 : decode cX10_basin 2 = .ok (.invokevirtual 74, 3) := by decide +kernel
theorem dX10_basin_5 : decode cX10_basin 5 = .ok (.iconst (-1), 1) := by decide +kernel
theorem dX10_basin_6 : decode cX10_basin 6 = .ok (.if_icmp .ne 11, 3) := by decide +kernel
theorem dX10_basin_9 : decode cX10_basin 9 = .ok (.aload_n 0, 1) := by decide +kernel
theorem dX10_basin_10 : decode cX10_basin 10 = .ok (.iload_n 1, 1) := by decide +kernel
theorem dX10_basin_11 : decode cX10_basin 11 = .ok (.invokevirtual 184, 3) := by decide +kernel
theorem dX10_basin_14 : decode cX10_basin 14 = .ok (.goto 4, 3) := by decide +kernel
theorem dX10_basin_17 : decode cX10_basin 17 = .ok (.iconst 0, 1) := by decide +kernel
theorem dX10_basin_18 : decode cX10_basin 18 = .ok (.ireturn, 1) := by decide +kernel
theorem dX10_drainOf_0 : decode cX10_drainOf 0 = .ok (.aload_n 0, 1) := by decide +kernel
theorem dX10_drainOf_1 : decode cX10_drainOf 1 = .ok (.iload_n 1, 1) := by decide +kernel
theorem dX10_drainOf_2 : decode cX10_drainOf 2 = .ok (.iload_n 2, 1) := by decide +kernel
theorem dX10_drainOf_3 : decode cX10_drainOf 3 = .ok (.invokevirtual 120, 3) := by decide +kernel
theorem dX10_drainOf_6 : decode cX10_drainOf 6 = .ok (.ifCond .ne 5, 3) := by decide +kernel
theorem dX10_drainOf_9 : decode cX10_drainOf 9 = .ok (.iconst 0, 1) := by decide +kernel
theorem dX10_drainOf_10 : decode cX10_drainOf 10 = .ok (.ireturn, 1) := by decide +kernel
theorem dX10_drainOf_11 : decode cX10_drainOf 11 = .ok (.aload_n 0, 1) := by decide +kernel
theorem dX10_drainOf_12 : decode cX10_drainOf 12 = .ok (.bipush 7, 2) := by decide +kernel
theorem dX10_drainOf_14 : decode cX10_drainOf 14 = .ok (.iload_n 1, 1) := by decide +kernel
theorem dX10_drainOf_15 : decode cX10_drainOf 15 = .ok (.imul, 1) := by decide +kernel
theorem dX10_drainOf_16 : decode cX10_drainOf 16 = .ok (.iload_n 2, 1) := by decide +kernel
theorem dX10_drainOf_17 : decode cX10_drainOf 17 = .ok (.iadd, 1) := by decide +kernel
theorem dX10_drainOf_18 : decode cX10_drainOf 18 = .ok (.invokevirtual 74, 3) := by decide +kernel
theorem dX10_drainOf_21 : decode cX10_drainOf 21 = .ok (.istore_n 3, 1) := by decide +kernel
theorem dX10_drainOf_22 : decode cX10_drainOf 22 = .ok (.iload_n 3, 1) := by decide +kernel
theorem dX10_drainOf_23 : decode cX10_drainOf 23 = .ok (.iconst (-1), 1) := by decide +kernel
theorem dX10_drainOf_24 : decode cX10_drainOf 24 = .ok (.if_icmp .ne 11, 3) := by decide +kernel
theorem dX10_drainOf_27 : decode cX10_drainOf 27 = .ok (.aload_n 0, 1) := by decide +kernel
theorem dX10_drainOf_28 : decode cX10_drainOf 28 = .ok (.iconst 2, 1) := by decide +kernel
theorem dX10_drainOf_29 : decode cX10_drainOf 29 = .ok (.invokevirtual 90, 3) := by decide +kernel
theorem dX10_drainOf_32 : decode cX10_drainOf 32 = .ok (.goto 4, 3) := by decide +kernel
theorem dX10_drainOf_35 : decode cX10_drainOf 35 = .ok (.iload_n 3, 1) := by decide +kernel
theorem dX10_drainOf_36 : decode cX10_drainOf 36 = .ok (.ireturn, 1) := by decide +kernel
theorem dX10_isSink_0 : decode cX10_isSink 0 = .ok (.aload_n 0, 1) := by decide +kernel
theorem dX10_isSink_1 : decode cX10_isSink 1 = .ok (.iload_n 1, 1) := by decide +kernel
theorem dX10_isSink_2 : decode cX10_isSink 2 = .ok (.iload_n 2, 1) := by decide +kernel
theorem dX10_isSink_3 : decode cX10_isSink 3 = .ok (.invokevirtual 120, 3) := by decide +kernel
theorem dX10_isSink_6 : decode cX10_isSink 6 = .ok (.ifCond .eq 21, 3) := by decide +kernel
theorem dX10_isSink_9 : decode cX10_isSink 9 = .ok (.aload_n 0, 1) := by decide +kernel
theorem dX10_isSink_10 : decode cX10_isSink 10 = .ok (.bipush 7, 2) := by decide +kernel
theorem dX10_isSink_12 : decode cX10_isSink 12 = .ok (.iload_n 1, 1) := by decide +kernel
theorem dX10_isSink_13 : decode cX10_isSink 13 = .ok (.imul, 1) := by decide +kernel
theorem dX10_isSink_14 : decode cX10_isSink 14 = .ok (.iload_n 2, 1) := by decide +kernel
theorem dX10_isSink_15 : decode cX10_isSink 15 = .ok (.iadd, 1) := by decide +kernel
theorem dX10_isSink_16 : decode cX10_isSink 16 = .ok (.invokevirtual 74, 3) := by decide +kernel
theorem dX10_isSink_19 : decode cX10_isSink 19 = .ok (.iconst (-1), 1) := by decide +kernel
theorem dX10_isSink_20 : decode cX10_isSink 20 = .ok (.if_icmp .ne 7, 3) := by decide +kernel
theorem dX10_isSink_23 : decode cX10_isSink 23 = .ok (.iconst 1, 1) := by decide +kernel
theorem dX10_isSink_24 : decode cX10_isSink 24 = .ok (.goto 4, 3) := by decide +kernel
theorem dX10_isSink_27 : decode cX10_isSink 27 = .ok (.iconst 0, 1) := by decide +kernel
theorem dX10_isSink_28 : decode cX10_isSink 28 = .ok (.ireturn, 1) := by decide +kernel
theorem dX10_dropOf_0 : decode cX10_dropOf 0 = .ok (.aload_n 0, 1) := by decide +kernel
theorem dX10_dropOf_1 : decode cX10_dropOf 1 = .ok (.iload_n 1, 1) := by decide +kernel
theorem dX10_dropOf_2 : decode cX10_dropOf 2 = .ok (.iload_n 2, 1) := by decide +kernel
theorem dX10_dropOf_3 : decode cX10_dropOf 3 = .ok (.invokevirtual 120, 3) := by decide +kernel
theorem dX10_dropOf_6 : decode cX10_dropOf 6 = .ok (.ifCond .eq 16, 3) := by decide +kernel
theorem dX10_dropOf_9 : decode cX10_dropOf 9 = .ok (.aload_n 0, 1) := by decide +kernel
theorem dX10_dropOf_10 : decode cX10_dropOf 10 = .ok (.bipush 7, 2) := by decide +kernel
theorem dX10_dropOf_12 : decode cX10_dropOf 12 = .ok (.iload_n 1, 1) := by decide +kernel
theorem dX10_dropOf_13 : decode cX10_dropOf 13 = .ok (.imul, 1) := by decide +kernel
theorem dX10_dropOf_14 : decode cX10_dropOf 14 = .ok (.iload_n 2, 1) := by decide +kernel
theorem dX10_dropOf_15 : decode cX10_dropOf 15 = .ok (.iadd, 1) := by decide +kernel
theorem dX10_dropOf_16 : decode cX10_dropOf 16 = .ok (.invokevirtual 77, 3) := by decide +kernel
theorem dX10_dropOf_19 : decode cX10_dropOf 19 = .ok (.goto 4, 3) := by decide +kernel
theorem dX10_dropOf_22 : decode cX10_dropOf 22 = .ok (.iconst 0, 1) := by decide +kernel
theorem dX10_dropOf_23 : decode cX10_dropOf 23 = .ok (.ireturn, 1) := by decide +kernel
theorem dX10_sinkOf_0 : decode cX10_sinkOf 0 = .ok (.aload_n 0, 1) := by decide +kernel
theorem dX10_sinkOf_1 : decode cX10_sinkOf 1 = .ok (.iload_n 1, 1) := by decide +kernel
theorem dX10_sinkOf_2 : decode cX10_sinkOf 2 = .ok (.iload_n 2, 1) := by decide +kernel
theorem dX10_sinkOf_3 : decode cX10_sinkOf 3 = .ok (.invokevirtual 120, 3) := by decide +kernel
theorem dX10_sinkOf_6 : decode cX10_sinkOf 6 = .ok (.ifCond .eq 16, 3) := by decide +kernel
theorem dX10_sinkOf_9 : decode cX10_sinkOf 9 = .ok (.aload_n 0, 1) := by decide +kernel
theorem dX10_sinkOf_10 : decode cX10_sinkOf 10 = .ok (.bipush 7, 2) := by decide +kernel
theorem dX10_sinkOf_12 : decode cX10_sinkOf 12 = .ok (.iload_n 1, 1) := by decide +kernel
theorem dX10_sinkOf_13 : decode cX10_sinkOf 13 = .ok (.imul, 1) := by decide +kernel
theorem dX10_sinkOf_14 : decode cX10_sinkOf 14 = .ok (.iload_n 2, 1) := by decide +kernel
theorem dX10_sinkOf_15 : decode cX10_sinkOf 15 = .ok (.iadd, 1) := by decide +kernel
theorem dX10_sinkOf_16 : decode cX10_sinkOf 16 = .ok (.invokevirtual 187, 3) := by decide +kernel
theorem dX10_sinkOf_19 : decode cX10_sinkOf 19 = .ok (.goto 4, 3) := by decide +kernel
theorem dX10_sinkOf_22 : decode cX10_sinkOf 22 = .ok (.iconst 0, 1) := by decide +kernel
theorem dX10_sinkOf_23 : decode cX10_sinkOf 23 = .ok (.ireturn, 1) := by decide +kernel
theorem dX10_basinByFollowing_0 : decode cX10_basinByFollowing 0 = .ok (.aload_n 0, 1) := by decide +kernel
theorem dX10_basinByFollowing_1 : decode cX10_basinByFollowing 1 = .ok (.iload_n 1, 1) := by decide +kernel
theorem dX10_basinByFollowing_2 : decode cX10_basinByFollowing 2 = .ok (.iload_n 2, 1) := by decide +kernel
theorem dX10_basinByFollowing_3 : decode cX10_basinByFollowing 3 = .ok (.invokevirtual 120, 3) := by decide +kernel
theorem dX10_basinByFollowing_6 : decode cX10_basinByFollowing 6 = .ok (.ifCond .eq 16, 3) := by decide +kernel
theorem dX10_basinByFollowing_9 : decode cX10_basinByFollowing 9 = .ok (.aload_n 0, 1) := by decide +kernel
theorem dX10_basinByFollowing_10 : decode cX10_basinByFollowing 10 = .ok (.bipush 7, 2) := by decide +kernel
theorem dX10_basinByFollowing_12 : decode cX10_basinByFollowing 12 = .ok (.iload_n 1, 1) := by decide +kernel
theorem dX10_basinByFollowing_13 : decode cX10_basinByFollowing 13 = .ok (.imul, 1) := by decide +kernel
theorem dX10_basinByFollowing_14 : decode cX10_basinByFollowing 14 = .ok (.iload_n 2, 1) := by decide +kernel
theorem dX10_basinByFollowing_15 : decode cX10_basinByFollowing 15 = .ok (.iadd, 1) := by decide +kernel
theorem dX10_basinByFollowing_16 : decode cX10_basinByFollowing 16 = .ok (.invokevirtual 190, 3) := by decide +kernel
theorem dX10_basinByFollowing_19 : decode cX10_basinByFollowing 19 = .ok (.goto 4, 3) := by decide +kernel
theorem dX10_basinByFollowing_22 : decode cX10_basinByFollowing 22 = .ok (.iconst 0, 1) := by decide +kernel
theorem dX10_basinByFollowing_23 : decode cX10_basinByFollowing 23 = .ok (.ireturn, 1) := by decide +kernel
theorem dX10_basinByGoingUp_0 : decode cX10_basinByGoingUp 0 = .ok (.aload_n 0, 1) := by decide +kernel
theorem dX10_basinByGoingUp_1 : decode cX10_basinByGoingUp 1 = .ok (.iload_n 1, 1) := by decide +kernel
theorem dX10_basinByGoingUp_2 : decode cX10_basinByGoingUp 2 = .ok (.iload_n 2, 1) := by decide +kernel
theorem dX10_basinByGoingUp_3 : decode cX10_basinByGoingUp 3 = .ok (.invokevirtual 120, 3) := by decide +kernel
theorem dX10_basinByGoingUp_6 : decode cX10_basinByGoingUp 6 = .ok (.ifCond .eq 16, 3) := by decide +kernel
theorem dX10_basinByGoingUp_9 : decode cX10_basinByGoingUp 9 = .ok (.aload_n 0, 1) := by decide +kernel
theorem dX10_basinByGoingUp_10 : decode cX10_basinByGoingUp 10 = .ok (.bipush 7, 2) := by decide +kernel
theorem dX10_basinByGoingUp_12 : decode cX10_basinByGoingUp 12 = .ok (.iload_n 1, 1) := by decide +kernel
theorem dX10_basinByGoingUp_13 : decode cX10_basinByGoingUp 13 = .ok (.imul, 1) := by decide +kernel
theorem dX10_basinByGoingUp_14 : decode cX10_basinByGoingUp 14 = .ok (.iload_n 2, 1) := by decide +kernel
theorem dX10_basinByGoingUp_15 : decode cX10_basinByGoingUp 15 = .ok (.iadd, 1) := by decide +kernel
theorem dX10_basinByGoingUp_16 : decode cX10_basinByGoingUp 16 = .ok (.invokevirtual 190, 3) := by decide +kernel
theorem dX10_basinByGoingUp_19 : decode cX10_basinByGoingUp 19 = .ok (.goto 4, 3) := by decide +kernel
theorem dX10_basinByGoingUp_22 : decode cX10_basinByGoingUp 22 = .ok (.iconst 0, 1) := by decide +kernel
theorem dX10_basinByGoingUp_23 : decode cX10_basinByGoingUp 23 = .ok (.ireturn, 1) := by decide +kernel
theorem dX10_flowAt_0 : decode cX10_flowAt 0 = .ok (.aload_n 0, 1) := by decide +kernel
theorem dX10_flowAt_1 : decode cX10_flowAt 1 = .ok (.iload_n 1, 1) := by decide +kernel
theorem dX10_flowAt_2 : decode cX10_flowAt 2 = .ok (.iload_n 2, 1) := by decide +kernel
theorem dX10_flowAt_3 : decode cX10_flowAt 3 = .ok (.invokevirtual 120, 3) := by decide +kernel
theorem dX10_flowAt_6 : decode cX10_flowAt 6 = .ok (.ifCond .eq 16, 3) := by decide +kernel
theorem dX10_flowAt_9 : decode cX10_flowAt 9 = .ok (.aload_n 0, 1) := by decide +kernel
theorem dX10_flowAt_10 : decode cX10_flowAt 10 = .ok (.bipush 7, 2) := by decide +kernel
theorem dX10_flowAt_12 : decode cX10_flowAt 12 = .ok (.iload_n 1, 1) := by decide +kernel
theorem dX10_flowAt_13 : decode cX10_flowAt 13 = .ok (.imul, 1) := by decide +kernel
theorem dX10_flowAt_14 : decode cX10_flowAt 14 = .ok (.iload_n 2, 1) := by decide +kernel
theorem dX10_flowAt_15 : decode cX10_flowAt 15 = .ok (.iadd, 1) := by decide +kernel
theorem dX10_flowAt_16 : decode cX10_flowAt 16 = .ok (.invokevirtual 184, 3) := by decide +kernel
theorem dX10_flowAt_19 : decode cX10_flowAt 19 = .ok (.goto 4, 3) := by decide +kernel
theorem dX10_flowAt_22 : decode cX10_flowAt 22 = .ok (.iconst 0, 1) := by decide +kernel
theorem dX10_flowAt_23 : decode cX10_flowAt 23 = .ok (.ireturn, 1) := by decide +kernel
theorem dX10_stepsToSink_0 : decode cX10_stepsToSink 0 = .ok (.aload_n 0, 1) := by decide +kernel
theorem dX10_stepsToSink_1 : decode cX10_stepsToSink 1 = .ok (.iload_n 1, 1) := by decide +kernel
theorem dX10_stepsToSink_2 : decode cX10_stepsToSink 2 = .ok (.iload_n 2, 1) := by decide +kernel
theorem dX10_stepsToSink_3 : decode cX10_stepsToSink 3 = .ok (.invokevirtual 120, 3) := by decide +kernel
theorem dX10_stepsToSink_6 : decode cX10_stepsToSink 6 = .ok (.ifCond .eq 16, 3) := by decide +kernel
theorem dX10_stepsToSink_9 : decode cX10_stepsToSink 9 = .ok (.aload_n 0, 1) := by decide +kernel
theorem dX10_stepsToSink_10 : decode cX10_stepsToSink 10 = .ok (.bipush 7, 2) := by decide +kernel
theorem dX10_stepsToSink_12 : decode cX10_stepsToSink 12 = .ok (.iload_n 1, 1) := by decide +kernel
theorem dX10_stepsToSink_13 : decode cX10_stepsToSink 13 = .ok (.imul, 1) := by decide +kernel
theorem dX10_stepsToSink_14 : decode cX10_stepsToSink 14 = .ok (.iload_n 2, 1) := by decide +kernel
theorem dX10_stepsToSink_15 : decode cX10_stepsToSink 15 = .ok (.iadd, 1) := by decide +kernel
theorem dX10_stepsToSink_16 : decode cX10_stepsToSink 16 = .ok (.invokevirtual 193, 3) := by decide +kernel
theorem dX10_stepsToSink_19 : decode cX10_stepsToSink 19 = .ok (.goto 4, 3) := by decide +kernel
theorem dX10_stepsToSink_22 : decode cX10_stepsToSink 22 = .ok (.iconst 0, 1) := by decide +kernel
theorem dX10_stepsToSink_23 : decode cX10_stepsToSink 23 = .ok (.ireturn, 1) := by decide +kernel
theorem dX10_allSinks_0 : decode cX10_allSinks 0 = .ok (.iconst 0, 1) := by decide +kernel
theorem dX10_allSinks_1 : decode cX10_allSinks 1 = .ok (.istore_n 1, 1) := by decide +kernel
theorem dX10_allSinks_2 : decode cX10_allSinks 2 = .ok (.iconst 0, 1) := by decide +kernel
theorem dX10_allSinks_3 : decode cX10_allSinks 3 = .ok (.istore_n 2, 1) := by decide +kernel
theorem dX10_allSinks_4 : decode cX10_allSinks 4 = .ok (.iload_n 2, 1) := by decide +kernel
theorem dX10_allSinks_5 : decode cX10_allSinks 5 = .ok (.bipush 49, 2) := by decide +kernel
theorem dX10_allSinks_7 : decode cX10_allSinks 7 = .ok (.if_icmp .ge 26, 3) := by decide +kernel
theorem dX10_allSinks_10 : decode cX10_allSinks 10 = .ok (.iload_n 1, 1) := by decide +kernel
theorem dX10_allSinks_11 : decode cX10_allSinks 11 = .ok (.aload_n 0, 1) := by decide +kernel
theorem dX10_allSinks_12 : decode cX10_allSinks 12 = .ok (.iload_n 2, 1) := by decide +kernel
theorem dX10_allSinks_13 : decode cX10_allSinks 13 = .ok (.invokevirtual 74, 3) := by decide +kernel
theorem dX10_allSinks_16 : decode cX10_allSinks 16 = .ok (.iconst (-1), 1) := by decide +kernel
theorem dX10_allSinks_17 : decode cX10_allSinks 17 = .ok (.if_icmp .ne 7, 3) := by decide +kernel
theorem dX10_allSinks_20 : decode cX10_allSinks 20 = .ok (.iconst 1, 1) := by decide +kernel
theorem dX10_allSinks_21 : decode cX10_allSinks 21 = .ok (.goto 4, 3) := by decide +kernel
theorem dX10_allSinks_24 : decode cX10_allSinks 24 = .ok (.iconst 0, 1) := by decide +kernel
theorem dX10_allSinks_25 : decode cX10_allSinks 25 = .ok (.iadd, 1) := by decide +kernel
theorem dX10_allSinks_26 : decode cX10_allSinks 26 = .ok (.istore_n 1, 1) := by decide +kernel
theorem dX10_allSinks_27 : decode cX10_allSinks 27 = .ok (.iinc 2 1, 3) := by decide +kernel
theorem dX10_allSinks_30 : decode cX10_allSinks 30 = .ok (.goto (-26), 3) := by decide +kernel
theorem dX10_allSinks_33 : decode cX10_allSinks 33 = .ok (.iload_n 1, 1) := by decide +kernel
theorem dX10_allSinks_34 : decode cX10_allSinks 34 = .ok (.ireturn, 1) := by decide +kernel
theorem dX10_sinks_0 : decode cX10_sinks 0 = .ok (.aload_n 0, 1) := by decide +kernel
theorem dX10_sinks_1 : decode cX10_sinks 1 = .ok (.iconst 0, 1) := by decide +kernel
theorem dX10_sinks_2 : decode cX10_sinks 2 = .ok (.putfield 44, 3) := by decide +kernel
theorem dX10_sinks_5 : decode cX10_sinks 5 = .ok (.aload_n 0, 1) := by decide +kernel
theorem dX10_sinks_6 : decode cX10_sinks 6 = .ok (.invokevirtual 196, 3) := by decide +kernel
theorem dX10_sinks_9 : decode cX10_sinks 9 = .ok (.ireturn, 1) := by decide +kernel
theorem dX10_greatest_0 : decode cX10_greatest 0 = .ok (.iconst 0, 1) := by decide +kernel
theorem dX10_greatest_1 : decode cX10_greatest 1 = .ok (.istore_n 1, 1) := by decide +kernel
theorem dX10_greatest_2 : decode cX10_greatest 2 = .ok (.iconst 0, 1) := by decide +kernel
theorem dX10_greatest_3 : decode cX10_greatest 3 = .ok (.istore_n 2, 1) := by decide +kernel
theorem dX10_greatest_4 : decode cX10_greatest 4 = .ok (.iconst 0, 1) := by decide +kernel
theorem dX10_greatest_5 : decode cX10_greatest 5 = .ok (.istore_n 3, 1) := by decide +kernel
theorem dX10_greatest_6 : decode cX10_greatest 6 = .ok (.iload_n 3, 1) := by decide +kernel
theorem dX10_greatest_7 : decode cX10_greatest 7 = .ok (.bipush 49, 2) := by decide +kernel
theorem dX10_greatest_9 : decode cX10_greatest 9 = .ok (.if_icmp .ge 41, 3) := by decide +kernel
theorem dX10_greatest_12 : decode cX10_greatest 12 = .ok (.aload_n 0, 1) := by decide +kernel
theorem dX10_greatest_13 : decode cX10_greatest 13 = .ok (.iload_n 3, 1) := by decide +kernel
theorem dX10_greatest_14 : decode cX10_greatest 14 = .ok (.invokevirtual 190, 3) := by decide +kernel
theorem dX10_greatest_17 : decode cX10_greatest 17 = .ok (.istore 4, 2) := by decide +kernel
theorem dX10_greatest_19 : decode cX10_greatest 19 = .ok (.iload 4, 2) := by decide +kernel
theorem dX10_greatest_21 : decode cX10_greatest 21 = .ok (.iload_n 2, 1) := by decide +kernel
theorem dX10_greatest_22 : decode cX10_greatest 22 = .ok (.if_icmp .le 7, 3) := by decide +kernel
theorem dX10_greatest_25 : decode cX10_greatest 25 = .ok (.iload_n 3, 1) := by decide +kernel
theorem dX10_greatest_26 : decode cX10_greatest 26 = .ok (.goto 4, 3) := by decide +kernel
theorem dX10_greatest_29 : decode cX10_greatest 29 = .ok (.iload_n 1, 1) := by decide +kernel
theorem dX10_greatest_30 : decode cX10_greatest 30 = .ok (.istore_n 1, 1) := by decide +kernel
theorem dX10_greatest_31 : decode cX10_greatest 31 = .ok (.iload 4, 2) := by decide +kernel
theorem dX10_greatest_33 : decode cX10_greatest 33 = .ok (.iload_n 2, 1) := by decide +kernel
theorem dX10_greatest_34 : decode cX10_greatest 34 = .ok (.if_icmp .le 8, 3) := by decide +kernel
theorem dX10_greatest_37 : decode cX10_greatest 37 = .ok (.iload 4, 2) := by decide +kernel
theorem dX10_greatest_39 : decode cX10_greatest 39 = .ok (.goto 4, 3) := by decide +kernel
theorem dX10_greatest_42 : decode cX10_greatest 42 = .ok (.iload_n 2, 1) := by decide +kernel
theorem dX10_greatest_43 : decode cX10_greatest 43 = .ok (.istore_n 2, 1) := by decide +kernel
theorem dX10_greatest_44 : decode cX10_greatest 44 = .ok (.iinc 3 1, 3) := by decide +kernel
theorem dX10_greatest_47 : decode cX10_greatest 47 = .ok (.goto (-41), 3) := by decide +kernel
theorem dX10_greatest_50 : decode cX10_greatest 50 = .ok (.iload_n 1, 1) := by decide +kernel
theorem dX10_greatest_51 : decode cX10_greatest 51 = .ok (.ireturn, 1) := by decide +kernel
theorem dX10_greatestBasin_0 : decode cX10_greatestBasin 0 = .ok (.aload_n 0, 1) := by decide +kernel
theorem dX10_greatestBasin_1 : decode cX10_greatestBasin 1 = .ok (.iconst 0, 1) := by decide +kernel
theorem dX10_greatestBasin_2 : decode cX10_greatestBasin 2 = .ok (.putfield 44, 3) := by decide +kernel
theorem dX10_greatestBasin_5 : decode cX10_greatestBasin 5 = .ok (.aload_n 0, 1) := by decide +kernel
theorem dX10_greatestBasin_6 : decode cX10_greatestBasin 6 = .ok (.invokevirtual 199, 3) := by decide +kernel
theorem dX10_greatestBasin_9 : decode cX10_greatestBasin 9 = .ok (.ireturn, 1) := by decide +kernel
theorem dX10_floods_0 : decode cX10_floods 0 = .ok (.iconst 0, 1) := by decide +kernel
theorem dX10_floods_1 : decode cX10_floods 1 = .ok (.istore_n 1, 1) := by decide +kernel
theorem dX10_floods_2 : decode cX10_floods 2 = .ok (.iload_n 1, 1) := by decide +kernel
theorem dX10_floods_3 : decode cX10_floods 3 = .ok (.bipush 49, 2) := by decide +kernel
theorem dX10_floods_5 : decode cX10_floods 5 = .ok (.if_icmp .ge 33, 3) := by decide +kernel
theorem dX10_floods_8 : decode cX10_floods 8 = .ok (.aload_n 0, 1) := by decide +kernel
theorem dX10_floods_9 : decode cX10_floods 9 = .ok (.getfield 41, 3) := by decide +kernel
theorem dX10_floods_12 : decode cX10_floods 12 = .ok (.iload_n 1, 1) := by decide +kernel
theorem dX10_floods_13 : decode cX10_floods 13 = .ok (.iload_n 1, 1) := by decide +kernel
theorem dX10_floods_14 : decode cX10_floods 14 = .ok (.invokestatic 202, 3) := by decide +kernel
theorem dX10_floods_17 : decode cX10_floods 17 = .ok (.ifCond .eq 12, 3) := by decide +kernel
theorem dX10_floods_20 : decode cX10_floods 20 = .ok (.aload_n 0, 1) := by decide +kernel
theorem dX10_floods_21 : decode cX10_floods 21 = .ok (.getfield 7, 3) := by decide +kernel
theorem dX10_floods_24 : decode cX10_floods 24 = .ok (.iload_n 1, 1) := by decide +kernel
theorem dX10_floods_25 : decode cX10_floods 25 = .ok (.iaload, 1) := by decide +kernel
theorem dX10_floods_26 : decode cX10_floods 26 = .ok (.goto 5, 3) := by decide +kernel
theorem dX10_floods_29 : decode cX10_floods 29 = .ok (.bipush 99, 2) := by decide +kernel
theorem dX10_floods_31 : decode cX10_floods 31 = .ok (.iastore, 1) := by decide +kernel
theorem dX10_floods_32 : decode cX10_floods 32 = .ok (.iinc 1 1, 3) := by decide +kernel
theorem dX10_floods_35 : decode cX10_floods 35 = .ok (.goto (-33), 3) := by decide +kernel
theorem dX10_floods_38 : decode cX10_floods 38 = .ok (.iconst 1, 1) := by decide +kernel
theorem dX10_floods_39 : decode cX10_floods 39 = .ok (.istore_n 1, 1) := by decide +kernel
theorem dX10_floods_40 : decode cX10_floods 40 = .ok (.iload_n 1, 1) := by decide +kernel
theorem dX10_floods_41 : decode cX10_floods 41 = .ok (.ifCond .eq 99, 3) := by decide +kernel
theorem dX10_floods_44 : decode cX10_floods 44 = .ok (.iconst 0, 1) := by decide +kernel
theorem dX10_floods_45 : decode cX10_floods 45 = .ok (.istore_n 1, 1) := by decide +kernel
theorem dX10_floods_46 : decode cX10_floods 46 = .ok (.iconst 0, 1) := by decide +kernel
theorem dX10_floods_47 : decode cX10_floods 47 = .ok (.istore_n 2, 1) := by decide +kernel
theorem dX10_floods_48 : decode cX10_floods 48 = .ok (.iload_n 2, 1) := by decide +kernel
theorem dX10_floods_49 : decode cX10_floods 49 = .ok (.bipush 49, 2) := by decide +kernel
theorem dX10_floods_51 : decode cX10_floods 51 = .ok (.if_icmp .ge 86, 3) := by decide +kernel
theorem dX10_floods_54 : decode cX10_floods 54 = .ok (.iconst 0, 1) := by decide +kernel
theorem dX10_floods_55 : decode cX10_floods 55 = .ok (.istore_n 3, 1) := by decide +kernel
theorem dX10_floods_56 : decode cX10_floods 56 = .ok (.iload_n 3, 1) := by decide +kernel
theorem dX10_floods_57 : decode cX10_floods 57 = .ok (.iconst 4, 1) := by decide +kernel
theorem dX10_floods_58 : decode cX10_floods 58 = .ok (.if_icmp .ge 73, 3) := by decide +kernel
theorem dX10_floods_61 : decode cX10_floods 61 = .ok (.iload_n 2, 1) := by decide +kernel
theorem dX10_floods_62 : decode cX10_floods 62 = .ok (.invokestatic 202, 3) := by decide +kernel
theorem dX10_floods_65 : decode cX10_floods 65 = .ok (.ifCond .ne 66, 3) := by decide +kernel
theorem dX10_floods_68 : decode cX10_floods 68 = .ok (.aload_n 0, 1) := by decide +kernel
theorem dX10_floods_69 : decode cX10_floods 69 = .ok (.getfield 41, 3) := by decide +kernel
theorem dX10_floods_72 : decode cX10_floods 72 = .ok (.iload_n 2, 1) := by decide +kernel
theorem dX10_floods_73 : decode cX10_floods 73 = .ok (.iload_n 3, 1) := by decide +kernel
theorem dX10_floods_74 : decode cX10_floods 74 = .ok (.invokestatic 70, 3) := by decide +kernel
theorem dX10_floods_77 : decode cX10_floods 77 = .ok (.iaload, 1) := by decide +kernel
theorem dX10_floods_78 : decode cX10_floods 78 = .ok (.istore 4, 2) := by decide +kernel
theorem dX10_floods_80 : decode cX10_floods 80 = .ok (.iload 4, 2) := by decide +kernel
theorem dX10_floods_82 : decode cX10_floods 82 = .ok (.aload_n 0, 1) := by decide +kernel
theorem dX10_floods_83 : decode cX10_floods 83 = .ok (.getfield 7, 3) := by decide +kernel
theorem dX10_floods_86 : decode cX10_floods 86 = .ok (.iload_n 2, 1) := by decide +kernel
theorem dX10_floods_87 : decode cX10_floods 87 = .ok (.iaload, 1) := by decide +kernel
theorem dX10_floods_88 : decode cX10_floods 88 = .ok (.if_icmp .le 8, 3) := by decide +kernel
theorem dX10_floods_91 : decode cX10_floods 91 = .ok (.iload 4, 2) := by decide +kernel
theorem dX10_floods_93 : decode cX10_floods 93 = .ok (.goto 9, 3) := by decide +kernel
theorem dX10_floods_96 : decode cX10_floods 96 = .ok (.aload_n 0, 1) := by decide +kernel
theorem dX10_floods_97 : decode cX10_floods 97 = .ok (.getfield 7, 3) := by decide +kernel
theorem dX10_floods_100 : decode cX10_floods 100 = .ok (.iload_n 2, 1) := by decide +kernel
theorem dX10_floods_101 : decode cX10_floods 101 = .ok (.iaload, 1) := by decide +kernel
theorem dX10_floods_102 : decode cX10_floods 102 = .ok (.istore 5, 2) := by decide +kernel
theorem dX10_floods_104 : decode cX10_floods 104 = .ok (.iload 5, 2) := by decide +kernel
theorem dX10_floods_106 : decode cX10_floods 106 = .ok (.aload_n 0, 1) := by decide +kernel
theorem dX10_floods_107 : decode cX10_floods 107 = .ok (.getfield 41, 3) := by decide +kernel
theorem dX10_floods_110 : decode cX10_floods 110 = .ok (.iload_n 2, 1) := by decide +kernel
theorem dX10_floods_111 : decode cX10_floods 111 = .ok (.iaload, 1) := by decide +kernel
theorem dX10_floods_112 : decode cX10_floods 112 = .ok (.if_icmp .ge 13, 3) := by decide +kernel
theorem dX10_floods_115 : decode cX10_floods 115 = .ok (.aload_n 0, 1) := by decide +kernel
theorem dX10_floods_116 : decode cX10_floods 116 = .ok (.getfield 41, 3) := by decide +kernel
theorem dX10_floods_119 : decode cX10_floods 119 = .ok (.iload_n 2, 1) := by decide +kernel
theorem dX10_floods_120 : decode cX10_floods 120 = .ok (.iload 5, 2) := by decide +kernel
theorem dX10_floods_122 : decode cX10_floods 122 = .ok (.iastore, 1) := by decide +kernel
theorem dX10_floods_123 : decode cX10_floods 123 = .ok (.iconst 1, 1) := by decide +kernel
theorem dX10_floods_124 : decode cX10_floods 124 = .ok (.istore_n 1, 1) := by decide +kernel
theorem dX10_floods_125 : decode cX10_floods 125 = .ok (.iinc 3 1, 3) := by decide +kernel
theorem dX10_floods_128 : decode cX10_floods 128 = .ok (.goto (-72), 3) := by decide +kernel
theorem dX10_floods_131 : decode cX10_floods 131 = .ok (.iinc 2 1, 3) := by decide +kernel
theorem dX10_floods_134 : decode cX10_floods 134 = .ok (.goto (-86), 3) := by decide +kernel
theorem dX10_floods_137 : decode cX10_floods 137 = .ok (.goto (-97), 3) := by decide +kernel
theorem dX10_floods_140 : decode cX10_floods 140 = .ok (.return_, 1) := by decide +kernel
theorem dX10_spill_0 : decode cX10_spill 0 = .ok (.aload_n 0, 1) := by decide +kernel
theorem dX10_spill_1 : decode cX10_spill 1 = .ok (.iload_n 1, 1) := by decide +kernel
theorem dX10_spill_2 : decode cX10_spill 2 = .ok (.iload_n 2, 1) := by decide +kernel
theorem dX10_spill_3 : decode cX10_spill 3 = .ok (.invokevirtual 120, 3) := by decide +kernel
theorem dX10_spill_6 : decode cX10_spill 6 = .ok (.ifCond .ne 5, 3) := by decide +kernel
theorem dX10_spill_9 : decode cX10_spill 9 = .ok (.iconst 0, 1) := by decide +kernel
theorem dX10_spill_10 : decode cX10_spill 10 = .ok (.ireturn, 1) := by decide +kernel
theorem dX10_spill_11 : decode cX10_spill 11 = .ok (.aload_n 0, 1) := by decide +kernel
theorem dX10_spill_12 : decode cX10_spill 12 = .ok (.invokevirtual 205, 3) := by decide +kernel
theorem dX10_spill_15 : decode cX10_spill 15 = .ok (.aload_n 0, 1) := by decide +kernel
theorem dX10_spill_16 : decode cX10_spill 16 = .ok (.getfield 41, 3) := by decide +kernel
theorem dX10_spill_19 : decode cX10_spill 19 = .ok (.bipush 7, 2) := by decide +kernel
theorem dX10_spill_21 : decode cX10_spill 21 = .ok (.iload_n 1, 1) := by decide +kernel
theorem dX10_spill_22 : decode cX10_spill 22 = .ok (.imul, 1) := by decide +kernel
theorem dX10_spill_23 : decode cX10_spill 23 = .ok (.iload_n 2, 1) := by decide +kernel
theorem dX10_spill_24 : decode cX10_spill 24 = .ok (.iadd, 1) := by decide +kernel
theorem dX10_spill_25 : decode cX10_spill 25 = .ok (.iaload, 1) := by decide +kernel
theorem dX10_spill_26 : decode cX10_spill 26 = .ok (.ireturn, 1) := by decide +kernel
theorem dX10_spillByWays_0 : decode cX10_spillByWays 0 = .ok (.aload_n 0, 1) := by decide +kernel
theorem dX10_spillByWays_1 : decode cX10_spillByWays 1 = .ok (.iload_n 1, 1) := by decide +kernel
theorem dX10_spillByWays_2 : decode cX10_spillByWays 2 = .ok (.iload_n 2, 1) := by decide +kernel
theorem dX10_spillByWays_3 : decode cX10_spillByWays 3 = .ok (.invokevirtual 208, 3) := by decide +kernel
theorem dX10_spillByWays_6 : decode cX10_spillByWays 6 = .ok (.ireturn, 1) := by decide +kernel
theorem dX10_spillByLevels_0 : decode cX10_spillByLevels 0 = .ok (.aload_n 0, 1) := by decide +kernel
theorem dX10_spillByLevels_1 : decode cX10_spillByLevels 1 = .ok (.iload_n 1, 1) := by decide +kernel
theorem dX10_spillByLevels_2 : decode cX10_spillByLevels 2 = .ok (.iload_n 2, 1) := by decide +kernel
theorem dX10_spillByLevels_3 : decode cX10_spillByLevels 3 = .ok (.invokevirtual 208, 3) := by decide +kernel
theorem dX10_spillByLevels_6 : decode cX10_spillByLevels 6 = .ok (.ireturn, 1) := by decide +kernel
theorem dX10_depthOf_0 : decode cX10_depthOf 0 = .ok (.aload_n 0, 1) := by decide +kernel
theorem dX10_depthOf_1 : decode cX10_depthOf 1 = .ok (.iload_n 1, 1) := by decide +kernel
theorem dX10_depthOf_2 : decode cX10_depthOf 2 = .ok (.iload_n 2, 1) := by decide +kernel
theorem dX10_depthOf_3 : decode cX10_depthOf 3 = .ok (.invokevirtual 208, 3) := by decide +kernel
theorem dX10_depthOf_6 : decode cX10_depthOf 6 = .ok (.istore_n 3, 1) := by decide +kernel
theorem dX10_depthOf_7 : decode cX10_depthOf 7 = .ok (.aload_n 0, 1) := by decide +kernel
theorem dX10_depthOf_8 : decode cX10_depthOf 8 = .ok (.getfield 44, 3) := by decide +kernel
theorem dX10_depthOf_11 : decode cX10_depthOf 11 = .ok (.ifCond .ne 19, 3) := by decide +kernel
theorem dX10_depthOf_14 : decode cX10_depthOf 14 = .ok (.iload_n 3, 1) := by decide +kernel
theorem dX10_depthOf_15 : decode cX10_depthOf 15 = .ok (.aload_n 0, 1) := by decide +kernel
theorem dX10_depthOf_16 : decode cX10_depthOf 16 = .ok (.getfield 7, 3) := by decide +kernel
theorem dX10_depthOf_19 : decode cX10_depthOf 19 = .ok (.bipush 7, 2) := by decide +kernel
theorem dX10_depthOf_21 : decode cX10_depthOf 21 = .ok (.iload_n 1, 1) := by decide +kernel
theorem dX10_depthOf_22 : decode cX10_depthOf 22 = .ok (.imul, 1) := by decide +kernel
theorem dX10_depthOf_23 : decode cX10_depthOf 23 = .ok (.iload_n 2, 1) := by decide +kernel
theorem dX10_depthOf_24 : decode cX10_depthOf 24 = .ok (.iadd, 1) := by decide +kernel
theorem dX10_depthOf_25 : decode cX10_depthOf 25 = .ok (.iaload, 1) := by decide +kernel
theorem dX10_depthOf_26 : decode cX10_depthOf 26 = .ok (.isub, 1) := by decide +kernel
theorem dX10_depthOf_27 : decode cX10_depthOf 27 = .ok (.goto 4, 3) := by decide +kernel
theorem dX10_depthOf_30 : decode cX10_depthOf 30 = .ok (.iconst 0, 1) := by decide +kernel
theorem dX10_depthOf_31 : decode cX10_depthOf 31 = .ok (.ireturn, 1) := by decide +kernel
theorem dX10_allWater_0 : decode cX10_allWater 0 = .ok (.aload_n 0, 1) := by decide +kernel
theorem dX10_allWater_1 : decode cX10_allWater 1 = .ok (.invokevirtual 205, 3) := by decide +kernel
theorem dX10_allWater_4 : decode cX10_allWater 4 = .ok (.iconst 0, 1) := by decide +kernel
theorem dX10_allWater_5 : decode cX10_allWater 5 = .ok (.istore_n 1, 1) := by decide +kernel
theorem dX10_allWater_6 : decode cX10_allWater 6 = .ok (.iconst 0, 1) := by decide +kernel
theorem dX10_allWater_7 : decode cX10_allWater 7 = .ok (.istore_n 2, 1) := by decide +kernel
theorem dX10_allWater_8 : decode cX10_allWater 8 = .ok (.iload_n 2, 1) := by decide +kernel
theorem dX10_allWater_9 : decode cX10_allWater 9 = .ok (.bipush 49, 2) := by decide +kernel
theorem dX10_allWater_11 : decode cX10_allWater 11 = .ok (.if_icmp .ge 25, 3) := by decide +kernel
theorem dX10_allWater_14 : decode cX10_allWater 14 = .ok (.iload_n 1, 1) := by decide +kernel
theorem dX10_allWater_15 : decode cX10_allWater 15 = .ok (.aload_n 0, 1) := by decide +kernel
theorem dX10_allWater_16 : decode cX10_allWater 16 = .ok (.getfield 41, 3) := by decide +kernel
theorem dX10_allWater_19 : decode cX10_allWater 19 = .ok (.iload_n 2, 1) := by decide +kernel
theorem dX10_allWater_20 : decode cX10_allWater 20 = .ok (.iaload, 1) := by decide +kernel
theorem dX10_allWater_21 : decode cX10_allWater 21 = .ok (.aload_n 0, 1) := by decide +kernel
theorem dX10_allWater_22 : decode cX10_allWater 22 = .ok (.getfield 7, 3) := by decide +kernel
theorem dX10_allWater_25 : decode cX10_allWater 25 = .ok (.iload_n 2, 1) := by decide +kernel
theorem dX10_allWater_26 : decode cX10_allWater 26 = .ok (.iaload, 1) := by decide +kernel
theorem dX10_allWater_27 : decode cX10_allWater 27 = .ok (.isub, 1) := by decide +kernel
theorem dX10_allWater_28 : decode cX10_allWater 28 = .ok (.iadd, 1) := by decide +kernel
theorem dX10_allWater_29 : decode cX10_allWater 29 = .ok (.istore_n 1, 1) := by decide +kernel
theorem dX10_allWater_30 : decode cX10_allWater 30 = .ok (.iinc 2 1, 3) := by decide +kernel
theorem dX10_allWater_33 : decode cX10_allWater 33 = .ok (.goto (-25), 3) := by decide +kernel
theorem dX10_allWater_36 : decode cX10_allWater 36 = .ok (.iload_n 1, 1) := by decide +kernel
theorem dX10_allWater_37 : decode cX10_allWater 37 = .ok (.ireturn, 1) := by decide +kernel
theorem dX10_water_0 : decode cX10_water 0 = .ok (.aload_n 0, 1) := by decide +kernel
theorem dX10_water_1 : decode cX10_water 1 = .ok (.iconst 0, 1) := by decide +kernel
theorem dX10_water_2 : decode cX10_water 2 = .ok (.putfield 44, 3) := by decide +kernel
theorem dX10_water_5 : decode cX10_water 5 = .ok (.aload_n 0, 1) := by decide +kernel
theorem dX10_water_6 : decode cX10_water 6 = .ok (.invokevirtual 211, 3) := by decide +kernel
theorem dX10_water_9 : decode cX10_water 9 = .ok (.ireturn, 1) := by decide +kernel
theorem dX10_allPonds_0 : decode cX10_allPonds 0 = .ok (.aload_n 0, 1) := by decide +kernel
theorem dX10_allPonds_1 : decode cX10_allPonds 1 = .ok (.invokevirtual 205, 3) := by decide +kernel
theorem dX10_allPonds_4 : decode cX10_allPonds 4 = .ok (.iconst 0, 1) := by decide +kernel
theorem dX10_allPonds_5 : decode cX10_allPonds 5 = .ok (.istore_n 1, 1) := by decide +kernel
theorem dX10_allPonds_6 : decode cX10_allPonds 6 = .ok (.iload_n 1, 1) := by decide +kernel
theorem dX10_allPonds_7 : decode cX10_allPonds 7 = .ok (.bipush 49, 2) := by decide +kernel
theorem dX10_allPonds_9 : decode cX10_allPonds 9 = .ok (.if_icmp .ge 35, 3) := by decide +kernel
theorem dX10_allPonds_12 : decode cX10_allPonds 12 = .ok (.aload_n 0, 1) := by decide +kernel
theorem dX10_allPonds_13 : decode cX10_allPonds 13 = .ok (.getfield 38, 3) := by decide +kernel
theorem dX10_allPonds_16 : decode cX10_allPonds 16 = .ok (.iload_n 1, 1) := by decide +kernel
theorem dX10_allPonds_17 : decode cX10_allPonds 17 = .ok (.aload_n 0, 1) := by decide +kernel
theorem dX10_allPonds_18 : decode cX10_allPonds 18 = .ok (.getfield 41, 3) := by decide +kernel
theorem dX10_allPonds_21 : decode cX10_allPonds 21 = .ok (.iload_n 1, 1) := by decide +kernel
theorem dX10_allPonds_22 : decode cX10_allPonds 22 = .ok (.iaload, 1) := by decide +kernel
theorem dX10_allPonds_23 : decode cX10_allPonds 23 = .ok (.aload_n 0, 1) := by decide +kernel
theorem dX10_allPonds_24 : decode cX10_allPonds 24 = .ok (.getfield 7, 3) := by decide +kernel
theorem dX10_allPonds_27 : decode cX10_allPonds 27 = .ok (.iload_n 1, 1) := by decide +kernel
theorem dX10_allPonds_28 : decode cX10_allPonds 28 = .ok (.iaload, 1) := by decide +kernel
theorem dX10_allPonds_29 : decode cX10_allPonds 29 = .ok (.if_icmp .le 7, 3) := by decide +kernel
theorem dX10_allPonds_32 : decode cX10_allPonds 32 = .ok (.iload_n 1, 1) := by decide +kernel
theorem dX10_allPonds_33 : decode cX10_allPonds 33 = .ok (.goto 4, 3) := by decide +kernel
theorem dX10_allPonds_36 : decode cX10_allPonds 36 = .ok (.iconst (-1), 1) := by decide +kernel
theorem dX10_allPonds_37 : decode cX10_allPonds 37 = .ok (.iastore, 1) := by decide +kernel
theorem dX10_allPonds_38 : decode cX10_allPonds 38 = .ok (.iinc 1 1, 3) := by decide +kernel
theorem dX10_allPonds_41 : decode cX10_allPonds 41 = .ok (.goto (-35), 3) := by decide +kernel
theorem dX10_allPonds_44 : decode cX10_allPonds 44 = .ok (.aload_n 0, 1) := by decide +kernel
theorem dX10_allPonds_45 : decode cX10_allPonds 45 = .ok (.iconst 0, 1) := by decide +kernel
theorem dX10_allPonds_46 : decode cX10_allPonds 46 = .ok (.invokevirtual 168, 3) := by decide +kernel
theorem dX10_allPonds_49 : decode cX10_allPonds 49 = .ok (.ireturn, 1) := by decide +kernel
theorem dX10_ponds_0 : decode cX10_ponds 0 = .ok (.aload_n 0, 1) := by decide +kernel
theorem dX10_ponds_1 : decode cX10_ponds 1 = .ok (.iconst 0, 1) := by decide +kernel
theorem dX10_ponds_2 : decode cX10_ponds 2 = .ok (.putfield 44, 3) := by decide +kernel
theorem dX10_ponds_5 : decode cX10_ponds 5 = .ok (.aload_n 0, 1) := by decide +kernel
theorem dX10_ponds_6 : decode cX10_ponds 6 = .ok (.invokevirtual 214, 3) := by decide +kernel
theorem dX10_ponds_9 : decode cX10_ponds 9 = .ok (.ireturn, 1) := by decide +kernel
theorem dX10_cutOf_0 : decode cX10_cutOf 0 = .ok (.iload_n 1, 1) := by decide +kernel
theorem dX10_cutOf_1 : decode cX10_cutOf 1 = .ok (.bipush 7, 2) := by decide +kernel
theorem dX10_cutOf_3 : decode cX10_cutOf 3 = .ok (.idiv, 1) := by decide +kernel
theorem dX10_cutOf_4 : decode cX10_cutOf 4 = .ok (.iload_n 0, 1) := by decide +kernel
theorem dX10_cutOf_5 : decode cX10_cutOf 5 = .ok (.bipush 7, 2) := by decide +kernel
theorem dX10_cutOf_7 : decode cX10_cutOf 7 = .ok (.idiv, 1) := by decide +kernel
theorem dX10_cutOf_8 : decode cX10_cutOf 8 = .ok (.isub, 1) := by decide +kernel
theorem dX10_cutOf_9 : decode cX10_cutOf 9 = .ok (.invokestatic 63, 3) := by decide +kernel
theorem dX10_cutOf_12 : decode cX10_cutOf 12 = .ok (.istore_n 2, 1) := by decide +kernel
theorem dX10_cutOf_13 : decode cX10_cutOf 13 = .ok (.iload_n 1, 1) := by decide +kernel
theorem dX10_cutOf_14 : decode cX10_cutOf 14 = .ok (.bipush 7, 2) := by decide +kernel
theorem dX10_cutOf_16 : decode cX10_cutOf 16 = .ok (.irem, 1) := by decide +kernel
theorem dX10_cutOf_17 : decode cX10_cutOf 17 = .ok (.iload_n 0, 1) := by decide +kernel
theorem dX10_cutOf_18 : decode cX10_cutOf 18 = .ok (.bipush 7, 2) := by decide +kernel
theorem dX10_cutOf_20 : decode cX10_cutOf 20 = .ok (.irem, 1) := by decide +kernel
theorem dX10_cutOf_21 : decode cX10_cutOf 21 = .ok (.isub, 1) := by decide +kernel
theorem dX10_cutOf_22 : decode cX10_cutOf 22 = .ok (.invokestatic 63, 3) := by decide +kernel
theorem dX10_cutOf_25 : decode cX10_cutOf 25 = .ok (.istore_n 3, 1) := by decide +kernel
theorem dX10_cutOf_26 : decode cX10_cutOf 26 = .ok (.iload_n 2, 1) := by decide +kernel
theorem dX10_cutOf_27 : decode cX10_cutOf 27 = .ok (.iload_n 3, 1) := by decide +kernel
theorem dX10_cutOf_28 : decode cX10_cutOf 28 = .ok (.if_icmp .le 7, 3) := by decide +kernel
theorem dX10_cutOf_31 : decode cX10_cutOf 31 = .ok (.iload_n 2, 1) := by decide +kernel
theorem dX10_cutOf_32 : decode cX10_cutOf 32 = .ok (.goto 4, 3) := by decide +kernel
theorem dX10_cutOf_35 : decode cX10_cutOf 35 = .ok (.iload_n 3, 1) := by decide +kernel
theorem dX10_cutOf_36 : decode cX10_cutOf 36 = .ok (.ireturn, 1) := by decide +kernel
theorem dX10_onCut_0 : decode cX10_onCut 0 = .ok (.iload_n 0, 1) := by decide +kernel
theorem dX10_onCut_1 : decode cX10_onCut 1 = .ok (.iload_n 1, 1) := by decide +kernel
theorem dX10_onCut_2 : decode cX10_onCut 2 = .ok (.invokestatic 217, 3) := by decide +kernel
theorem dX10_onCut_5 : decode cX10_onCut 5 = .ok (.istore_n 3, 1) := by decide +kernel
theorem dX10_onCut_6 : decode cX10_onCut 6 = .ok (.iload_n 3, 1) := by decide +kernel
theorem dX10_onCut_7 : decode cX10_onCut 7 = .ok (.ifCond .ne 5, 3) := by decide +kernel
theorem dX10_onCut_10 : decode cX10_onCut 10 = .ok (.iload_n 0, 1) := by decide +kernel
theorem dX10_onCut_11 : decode cX10_onCut 11 = .ok (.ireturn, 1) := by decide +kernel
theorem dX10_onCut_12 : decode cX10_onCut 12 = .ok (.iconst 2, 1) := by decide +kernel
theorem dX10_onCut_13 : decode cX10_onCut 13 = .ok (.iload_n 3, 1) := by decide +kernel
theorem dX10_onCut_14 : decode cX10_onCut 14 = .ok (.imul, 1) := by decide +kernel
theorem dX10_onCut_15 : decode cX10_onCut 15 = .ok (.iload_n 0, 1) := by decide +kernel
theorem dX10_onCut_16 : decode cX10_onCut 16 = .ok (.bipush 7, 2) := by decide +kernel
theorem dX10_onCut_18 : decode cX10_onCut 18 = .ok (.idiv, 1) := by decide +kernel
theorem dX10_onCut_19 : decode cX10_onCut 19 = .ok (.imul, 1) := by decide +kernel
theorem dX10_onCut_20 : decode cX10_onCut 20 = .ok (.iconst 2, 1) := by decide +kernel
theorem dX10_onCut_21 : decode cX10_onCut 21 = .ok (.iload_n 2, 1) := by decide +kernel
theorem dX10_onCut_22 : decode cX10_onCut 22 = .ok (.imul, 1) := by decide +kernel
theorem dX10_onCut_23 : decode cX10_onCut 23 = .ok (.iload_n 1, 1) := by decide +kernel
theorem dX10_onCut_24 : decode cX10_onCut 24 = .ok (.bipush 7, 2) := by decide +kernel
theorem dX10_onCut_26 : decode cX10_onCut 26 = .ok (.idiv, 1) := by decide +kernel
theorem dX10_onCut_27 : decode cX10_onCut 27 = .ok (.iload_n 0, 1) := by decide +kernel
theorem dX10_onCut_28 : decode cX10_onCut 28 = .ok (.bipush 7, 2) := by decide +kernel
theorem dX10_onCut_30 : decode cX10_onCut 30 = .ok (.idiv, 1) := by decide +kernel
theorem dX10_onCut_31 : decode cX10_onCut 31 = .ok (.isub, 1) := by decide +kernel
theorem dX10_onCut_32 : decode cX10_onCut 32 = .ok (.imul, 1) := by decide +kernel
theorem dX10_onCut_33 : decode cX10_onCut 33 = .ok (.iadd, 1) := by decide +kernel
theorem dX10_onCut_34 : decode cX10_onCut 34 = .ok (.iload_n 3, 1) := by decide +kernel
theorem dX10_onCut_35 : decode cX10_onCut 35 = .ok (.iadd, 1) := by decide +kernel
theorem dX10_onCut_36 : decode cX10_onCut 36 = .ok (.iconst 2, 1) := by decide +kernel
theorem dX10_onCut_37 : decode cX10_onCut 37 = .ok (.iload_n 3, 1) := by decide +kernel
theorem dX10_onCut_38 : decode cX10_onCut 38 = .ok (.imul, 1) := by decide +kernel
theorem dX10_onCut_39 : decode cX10_onCut 39 = .ok (.idiv, 1) := by decide +kernel
theorem dX10_onCut_40 : decode cX10_onCut 40 = .ok (.istore 4, 2) := by decide +kernel
theorem dX10_onCut_42 : decode cX10_onCut 42 = .ok (.iconst 2, 1) := by decide +kernel
theorem dX10_onCut_43 : decode cX10_onCut 43 = .ok (.iload_n 3, 1) := by decide +kernel
theorem dX10_onCut_44 : decode cX10_onCut 44 = .ok (.imul, 1) := by decide +kernel
theorem dX10_onCut_45 : decode cX10_onCut 45 = .ok (.iload_n 0, 1) := by decide +kernel
theorem dX10_onCut_46 : decode cX10_onCut 46 = .ok (.bipush 7, 2) := by decide +kernel
theorem dX10_onCut_48 : decode cX10_onCut 48 = .ok (.irem, 1) := by decide +kernel
theorem dX10_onCut_49 : decode cX10_onCut 49 = .ok (.imul, 1) := by decide +kernel
theorem dX10_onCut_50 : decode cX10_onCut 50 = .ok (.iconst 2, 1) := by decide +kernel
theorem dX10_onCut_51 : decode cX10_onCut 51 = .ok (.iload_n 2, 1) := by decide +kernel
theorem dX10_onCut_52 : decode cX10_onCut 52 = .ok (.imul, 1) := by decide +kernel
theorem dX10_onCut_53 : decode cX10_onCut 53 = .ok (.iload_n 1, 1) := by decide +kernel
theorem dX10_onCut_54 : decode cX10_onCut 54 = .ok (.bipush 7, 2) := by decide +kernel
theorem dX10_onCut_56 : decode cX10_onCut 56 = .ok (.irem, 1) := by decide +kernel
theorem dX10_onCut_57 : decode cX10_onCut 57 = .ok (.iload_n 0, 1) := by decide +kernel
theorem dX10_onCut_58 : decode cX10_onCut 58 = .ok (.bipush 7, 2) := by decide +kernel
theorem dX10_onCut_60 : decode cX10_onCut 60 = .ok (.irem, 1) := by decide +kernel
theorem dX10_onCut_61 : decode cX10_onCut 61 = .ok (.isub, 1) := by decide +kernel
theorem dX10_onCut_62 : decode cX10_onCut 62 = .ok (.imul, 1) := by decide +kernel
theorem dX10_onCut_63 : decode cX10_onCut 63 = .ok (.iadd, 1) := by decide +kernel
theorem dX10_onCut_64 : decode cX10_onCut 64 = .ok (.iload_n 3, 1) := by decide +kernel
theorem dX10_onCut_65 : decode cX10_onCut 65 = .ok (.iadd, 1) := by decide +kernel
theorem dX10_onCut_66 : decode cX10_onCut 66 = .ok (.iconst 2, 1) := by decide +kernel
theorem dX10_onCut_67 : decode cX10_onCut 67 = .ok (.iload_n 3, 1) := by decide +kernel
theorem dX10_onCut_68 : decode cX10_onCut 68 = .ok (.imul, 1) := by decide +kernel
theorem dX10_onCut_69 : decode cX10_onCut 69 = .ok (.idiv, 1) := by decide +kernel
theorem dX10_onCut_70 : decode cX10_onCut 70 = .ok (.istore 5, 2) := by decide +kernel
theorem dX10_onCut_72 : decode cX10_onCut 72 = .ok (.bipush 7, 2) := by decide +kernel
theorem dX10_onCut_74 : decode cX10_onCut 74 = .ok (.iload 4, 2) := by decide +kernel
theorem dX10_onCut_76 : decode cX10_onCut 76 = .ok (.imul, 1) := by decide +kernel
theorem dX10_onCut_77 : decode cX10_onCut 77 = .ok (.iload 5, 2) := by decide +kernel
theorem dX10_onCut_79 : decode cX10_onCut 79 = .ok (.iadd, 1) := by decide +kernel
theorem dX10_onCut_80 : decode cX10_onCut 80 = .ok (.ireturn, 1) := by decide +kernel
theorem dX10_isSeen_0 : decode cX10_isSeen 0 = .ok (.iload_n 1, 1) := by decide +kernel
theorem dX10_isSeen_1 : decode cX10_isSeen 1 = .ok (.iload_n 2, 1) := by decide +kernel
theorem dX10_isSeen_2 : decode cX10_isSeen 2 = .ok (.invokestatic 217, 3) := by decide +kernel
theorem dX10_isSeen_5 : decode cX10_isSeen 5 = .ok (.istore_n 3, 1) := by decide +kernel
theorem dX10_isSeen_6 : decode cX10_isSeen 6 = .ok (.iconst 1, 1) := by decide +kernel
theorem dX10_isSeen_7 : decode cX10_isSeen 7 = .ok (.istore 4, 2) := by decide +kernel
theorem dX10_isSeen_9 : decode cX10_isSeen 9 = .ok (.iconst 1, 1) := by decide +kernel
theorem dX10_isSeen_10 : decode cX10_isSeen 10 = .ok (.istore 5, 2) := by decide +kernel
theorem dX10_isSeen_12 : decode cX10_isSeen 12 = .ok (.iload 5, 2) := by decide +kernel
theorem dX10_isSeen_14 : decode cX10_isSeen 14 = .ok (.iload_n 3, 1) := by decide +kernel
theorem dX10_isSeen_15 : decode cX10_isSeen 15 = .ok (.if_icmp .ge 59, 3) := by decide +kernel
theorem dX10_isSeen_18 : decode cX10_isSeen 18 = .ok (.iload 4, 2) := by decide +kernel
theorem dX10_isSeen_20 : decode cX10_isSeen 20 = .ok (.ifCond .eq 45, 3) := by decide +kernel
theorem dX10_isSeen_23 : decode cX10_isSeen 23 = .ok (.aload_n 0, 1) := by decide +kernel
theorem dX10_isSeen_24 : decode cX10_isSeen 24 = .ok (.getfield 7, 3) := by decide +kernel
theorem dX10_isSeen_27 : decode cX10_isSeen 27 = .ok (.iload_n 1, 1) := by decide +kernel
theorem dX10_isSeen_28 : decode cX10_isSeen 28 = .ok (.iload_n 2, 1) := by decide +kernel
theorem dX10_isSeen_29 : decode cX10_isSeen 29 = .ok (.iload 5, 2) := by decide +kernel
theorem dX10_isSeen_31 : decode cX10_isSeen 31 = .ok (.invokestatic 220, 3) := by decide +kernel
theorem dX10_isSeen_34 : decode cX10_isSeen 34 = .ok (.iaload, 1) := by decide +kernel
theorem dX10_isSeen_35 : decode cX10_isSeen 35 = .ok (.iload_n 3, 1) := by decide +kernel
theorem dX10_isSeen_36 : decode cX10_isSeen 36 = .ok (.imul, 1) := by decide +kernel
theorem dX10_isSeen_37 : decode cX10_isSeen 37 = .ok (.iload_n 3, 1) := by decide +kernel
theorem dX10_isSeen_38 : decode cX10_isSeen 38 = .ok (.iload 5, 2) := by decide +kernel
theorem dX10_isSeen_40 : decode cX10_isSeen 40 = .ok (.isub, 1) := by decide +kernel
theorem dX10_isSeen_41 : decode cX10_isSeen 41 = .ok (.aload_n 0, 1) := by decide +kernel
theorem dX10_isSeen_42 : decode cX10_isSeen 42 = .ok (.getfield 7, 3) := by decide +kernel
theorem dX10_isSeen_45 : decode cX10_isSeen 45 = .ok (.iload_n 1, 1) := by decide +kernel
theorem dX10_isSeen_46 : decode cX10_isSeen 46 = .ok (.iaload, 1) := by decide +kernel
theorem dX10_isSeen_47 : decode cX10_isSeen 47 = .ok (.imul, 1) := by decide +kernel
theorem dX10_isSeen_48 : decode cX10_isSeen 48 = .ok (.iload 5, 2) := by decide +kernel
theorem dX10_isSeen_50 : decode cX10_isSeen 50 = .ok (.aload_n 0, 1) := by decide +kernel
theorem dX10_isSeen_51 : decode cX10_isSeen 51 = .ok (.getfield 7, 3) := by decide +kernel
theorem dX10_isSeen_54 : decode cX10_isSeen 54 = .ok (.iload_n 2, 1) := by decide +kernel
theorem dX10_isSeen_55 : decode cX10_isSeen 55 = .ok (.iaload, 1) := by decide +kernel
theorem dX10_isSeen_56 : decode cX10_isSeen 56 = .ok (.imul, 1) := by decide +kernel
theorem dX10_isSeen_57 : decode cX10_isSeen 57 = .ok (.iadd, 1) := by decide +kernel
theorem dX10_isSeen_58 : decode cX10_isSeen 58 = .ok (.if_icmp .gt 7, 3) := by decide +kernel
theorem dX10_isSeen_61 : decode cX10_isSeen 61 = .ok (.iconst 1, 1) := by decide +kernel
theorem dX10_isSeen_62 : decode cX10_isSeen 62 = .ok (.goto 4, 3) := by decide +kernel
theorem dX10_isSeen_65 : decode cX10_isSeen 65 = .ok (.iconst 0, 1) := by decide +kernel
theorem dX10_isSeen_66 : decode cX10_isSeen 66 = .ok (.istore 4, 2) := by decide +kernel
theorem dX10_isSeen_68 : decode cX10_isSeen 68 = .ok (.iinc 5 1, 3) := by decide +kernel
theorem dX10_isSeen_71 : decode cX10_isSeen 71 = .ok (.goto (-59), 3) := by decide +kernel
theorem dX10_isSeen_74 : decode cX10_isSeen 74 = .ok (.iload 4, 2) := by decide +kernel
theorem dX10_isSeen_76 : decode cX10_isSeen 76 = .ok (.ireturn, 1) := by decide +kernel
theorem dX10_seen_0 : decode cX10_seen 0 = .ok (.iconst 0, 1) := by decide +kernel
theorem dX10_seen_1 : decode cX10_seen 1 = .ok (.istore_n 2, 1) := by decide +kernel
theorem dX10_seen_2 : decode cX10_seen 2 = .ok (.iconst 0, 1) := by decide +kernel
theorem dX10_seen_3 : decode cX10_seen 3 = .ok (.istore_n 3, 1) := by decide +kernel
theorem dX10_seen_4 : decode cX10_seen 4 = .ok (.iload_n 3, 1) := by decide +kernel
theorem dX10_seen_5 : decode cX10_seen 5 = .ok (.bipush 49, 2) := by decide +kernel
theorem dX10_seen_7 : decode cX10_seen 7 = .ok (.if_icmp .ge 31, 3) := by decide +kernel
theorem dX10_seen_10 : decode cX10_seen 10 = .ok (.iload_n 2, 1) := by decide +kernel
theorem dX10_seen_11 : decode cX10_seen 11 = .ok (.iload_n 3, 1) := by decide +kernel
theorem dX10_seen_12 : decode cX10_seen 12 = .ok (.iload_n 1, 1) := by decide +kernel
theorem dX10_seen_13 : decode cX10_seen 13 = .ok (.if_icmp .eq 16, 3) := by decide +kernel
theorem dX10_seen_16 : decode cX10_seen 16 = .ok (.aload_n 0, 1) := by decide +kernel
theorem dX10_seen_17 : decode cX10_seen 17 = .ok (.iload_n 1, 1) := by decide +kernel
theorem dX10_seen_18 : decode cX10_seen 18 = .ok (.iload_n 3, 1) := by decide +kernel
theorem dX10_seen_19 : decode cX10_seen 19 = .ok (.invokevirtual 223, 3) := by decide +kernel
theorem dX10_seen_22 : decode cX10_seen 22 = .ok (.ifCond .eq 7, 3) := by decide +kernel
theorem dX10_seen_25 : decode cX10_seen 25 = .ok (.iconst 1, 1) := by decide +kernel
theorem dX10_seen_26 : decode cX10_seen 26 = .ok (.goto 4, 3) := by decide +kernel
theorem dX10_seen_29 : decode cX10_seen 29 = .ok (.iconst 0, 1) := by decide +kernel
theorem dX10_seen_30 : decode cX10_seen 30 = .ok (.iadd, 1) := by decide +kernel
theorem dX10_seen_31 : decode cX10_seen 31 = .ok (.istore_n 2, 1) := by decide +kernel
theorem dX10_seen_32 : decode cX10_seen 32 = .ok (.iinc 3 1, 3) := by decide +kernel
theorem dX10_seen_35 : decode cX10_seen 35 = .ok (.goto (-31), 3) := by decide +kernel
theorem dX10_seen_38 : decode cX10_seen 38 = .ok (.iload_n 2, 1) := by decide +kernel
theorem dX10_seen_39 : decode cX10_seen 39 = .ok (.ireturn, 1) := by decide +kernel
theorem dX10_areThere_0 : decode cX10_areThere 0 = .ok (.aload_n 0, 1) := by decide +kernel
theorem dX10_areThere_1 : decode cX10_areThere 1 = .ok (.iload_n 1, 1) := by decide +kernel
theorem dX10_areThere_2 : decode cX10_areThere 2 = .ok (.iload_n 2, 1) := by decide +kernel
theorem dX10_areThere_3 : decode cX10_areThere 3 = .ok (.invokestatic 55, 3) := by decide +kernel
theorem dX10_areThere_6 : decode cX10_areThere 6 = .ok (.ifCond .eq 16, 3) := by decide +kernel
theorem dX10_areThere_9 : decode cX10_areThere 9 = .ok (.iload_n 3, 1) := by decide +kernel
theorem dX10_areThere_10 : decode cX10_areThere 10 = .ok (.iload 4, 2) := by decide +kernel
theorem dX10_areThere_12 : decode cX10_areThere 12 = .ok (.invokestatic 55, 3) := by decide +kernel
theorem dX10_areThere_15 : decode cX10_areThere 15 = .ok (.ifCond .eq 7, 3) := by decide +kernel
theorem dX10_areThere_18 : decode cX10_areThere 18 = .ok (.iconst 0, 1) := by decide +kernel
theorem dX10_areThere_19 : decode cX10_areThere 19 = .ok (.goto 4, 3) := by decide +kernel
theorem dX10_areThere_22 : decode cX10_areThere 22 = .ok (.iconst 1, 1) := by decide +kernel
theorem dX10_areThere_23 : decode cX10_areThere 23 = .ok (.putfield 44, 3) := by decide +kernel
theorem dX10_areThere_26 : decode cX10_areThere 26 = .ok (.aload_n 0, 1) := by decide +kernel
theorem dX10_areThere_27 : decode cX10_areThere 27 = .ok (.getfield 44, 3) := by decide +kernel
theorem dX10_areThere_30 : decode cX10_areThere 30 = .ok (.ifCond .ne 7, 3) := by decide +kernel
theorem dX10_areThere_33 : decode cX10_areThere 33 = .ok (.iconst 1, 1) := by decide +kernel
theorem dX10_areThere_34 : decode cX10_areThere 34 = .ok (.goto 4, 3) := by decide +kernel
theorem dX10_areThere_37 : decode cX10_areThere 37 = .ok (.iconst 0, 1) := by decide +kernel
theorem dX10_areThere_38 : decode cX10_areThere 38 = .ok (.ireturn, 1) := by decide +kernel
theorem dX10_cutLength_0 : decode cX10_cutLength 0 = .ok (.aload_n 0, 1) := by decide +kernel
theorem dX10_cutLength_1 : decode cX10_cutLength 1 = .ok (.iload_n 1, 1) := by decide +kernel
theorem dX10_cutLength_2 : decode cX10_cutLength 2 = .ok (.iload_n 2, 1) := by decide +kernel
theorem dX10_cutLength_3 : decode cX10_cutLength 3 = .ok (.iload_n 3, 1) := by decide +kernel
theorem dX10_cutLength_4 : decode cX10_cutLength 4 = .ok (.iload 4, 2) := by decide +kernel
theorem dX10_cutLength_6 : decode cX10_cutLength 6 = .ok (.invokevirtual 226, 3) := by decide +kernel
theorem dX10_cutLength_9 : decode cX10_cutLength 9 = .ok (.ifCond .eq 24, 3) := by decide +kernel
theorem dX10_cutLength_12 : decode cX10_cutLength 12 = .ok (.bipush 7, 2) := by decide +kernel
theorem dX10_cutLength_14 : decode cX10_cutLength 14 = .ok (.iload_n 1, 1) := by decide +kernel
theorem dX10_cutLength_15 : decode cX10_cutLength 15 = .ok (.imul, 1) := by decide +kernel
theorem dX10_cutLength_16 : decode cX10_cutLength 16 = .ok (.iload_n 2, 1) := by decide +kernel
theorem dX10_cutLength_17 : decode cX10_cutLength 17 = .ok (.iadd, 1) := by decide +kernel
theorem dX10_cutLength_18 : decode cX10_cutLength 18 = .ok (.bipush 7, 2) := by decide +kernel
theorem dX10_cutLength_20 : decode cX10_cutLength 20 = .ok (.iload_n 3, 1) := by decide +kernel
theorem dX10_cutLength_21 : decode cX10_cutLength 21 = .ok (.imul, 1) := by decide +kernel
theorem dX10_cutLength_22 : decode cX10_cutLength 22 = .ok (.iload 4, 2) := by decide +kernel
theorem dX10_cutLength_24 : decode cX10_cutLength 24 = .ok (.iadd, 1) := by decide +kernel
theorem dX10_cutLength_25 : decode cX10_cutLength 25 = .ok (.invokestatic 217, 3) := by decide +kernel
theorem dX10_cutLength_28 : decode cX10_cutLength 28 = .ok (.iconst 1, 1) := by decide +kernel
theorem dX10_cutLength_29 : decode cX10_cutLength 29 = .ok (.iadd, 1) := by decide +kernel
theorem dX10_cutLength_30 : decode cX10_cutLength 30 = .ok (.goto 4, 3) := by decide +kernel
theorem dX10_cutLength_33 : decode cX10_cutLength 33 = .ok (.iconst 0, 1) := by decide +kernel
theorem dX10_cutLength_34 : decode cX10_cutLength 34 = .ok (.ireturn, 1) := by decide +kernel
theorem dX10_cutHeight_0 : decode cX10_cutHeight 0 = .ok (.aload_n 0, 1) := by decide +kernel
theorem dX10_cutHeight_1 : decode cX10_cutHeight 1 = .ok (.iload_n 1, 1) := by decide +kernel
theorem dX10_cutHeight_2 : decode cX10_cutHeight 2 = .ok (.iload_n 2, 1) := by decide +kernel
theorem dX10_cutHeight_3 : decode cX10_cutHeight 3 = .ok (.iload_n 3, 1) := by decide +kernel
theorem dX10_cutHeight_4 : decode cX10_cutHeight 4 = .ok (.iload 4, 2) := by decide +kernel
theorem dX10_cutHeight_6 : decode cX10_cutHeight 6 = .ok (.invokevirtual 226, 3) := by decide +kernel
theorem dX10_cutHeight_9 : decode cX10_cutHeight 9 = .ok (.ifCond .ne 5, 3) := by decide +kernel
theorem dX10_cutHeight_12 : decode cX10_cutHeight 12 = .ok (.iconst 0, 1) := by decide +kernel
theorem dX10_cutHeight_13 : decode cX10_cutHeight 13 = .ok (.ireturn, 1) := by decide +kernel
theorem dX10_cutHeight_14 : decode cX10_cutHeight 14 = .ok (.bipush 7, 2) := by decide +kernel
theorem dX10_cutHeight_16 : decode cX10_cutHeight 16 = .ok (.iload_n 1, 1) := by decide +kernel
theorem dX10_cutHeight_17 : decode cX10_cutHeight 17 = .ok (.imul, 1) := by decide +kernel
theorem dX10_cutHeight_18 : decode cX10_cutHeight 18 = .ok (.iload_n 2, 1) := by decide +kernel
theorem dX10_cutHeight_19 : decode cX10_cutHeight 19 = .ok (.iadd, 1) := by decide +kernel
theorem dX10_cutHeight_20 : decode cX10_cutHeight 20 = .ok (.istore 6, 2) := by decide +kernel
theorem dX10_cutHeight_22 : decode cX10_cutHeight 22 = .ok (.bipush 7, 2) := by decide +kernel
theorem dX10_cutHeight_24 : decode cX10_cutHeight 24 = .ok (.iload_n 3, 1) := by decide +kernel
theorem dX10_cutHeight_25 : decode cX10_cutHeight 25 = .ok (.imul, 1) := by decide +kernel
theorem dX10_cutHeight_26 : decode cX10_cutHeight 26 = .ok (.iload 4, 2) := by decide +kernel
theorem dX10_cutHeight_28 : decode cX10_cutHeight 28 = .ok (.iadd, 1) := by decide +kernel
theorem dX10_cutHeight_29 : decode cX10_cutHeight 29 = .ok (.istore 7, 2) := by decide +kernel
theorem dX10_cutHeight_31 : decode cX10_cutHeight 31 = .ok (.iload 5, 2) := by decide +kernel
theorem dX10_cutHeight_33 : decode cX10_cutHeight 33 = .ok (.iconst 0, 1) := by decide +kernel
theorem dX10_cutHeight_34 : decode cX10_cutHeight 34 = .ok (.iload 6, 2) := by decide +kernel
theorem dX10_cutHeight_36 : decode cX10_cutHeight 36 = .ok (.iload 7, 2) := by decide +kernel
theorem dX10_cutHeight_38 : decode cX10_cutHeight 38 = .ok (.invokestatic 217, 3) := by decide +kernel
theorem dX10_cutHeight_41 : decode cX10_cutHeight 41 = .ok (.invokestatic 48, 3) := by decide +kernel
theorem dX10_cutHeight_44 : decode cX10_cutHeight 44 = .ok (.ifCond .eq 20, 3) := by decide +kernel
theorem dX10_cutHeight_47 : decode cX10_cutHeight 47 = .ok (.aload_n 0, 1) := by decide +kernel
theorem dX10_cutHeight_48 : decode cX10_cutHeight 48 = .ok (.getfield 7, 3) := by decide +kernel
theorem dX10_cutHeight_51 : decode cX10_cutHeight 51 = .ok (.iload 6, 2) := by decide +kernel
theorem dX10_cutHeight_53 : decode cX10_cutHeight 53 = .ok (.iload 7, 2) := by decide +kernel
theorem dX10_cutHeight_55 : decode cX10_cutHeight 55 = .ok (.iload 5, 2) := by decide +kernel
theorem dX10_cutHeight_57 : decode cX10_cutHeight 57 = .ok (.invokestatic 220, 3) := by decide +kernel
theorem dX10_cutHeight_60 : decode cX10_cutHeight 60 = .ok (.iaload, 1) := by decide +kernel
theorem dX10_cutHeight_61 : decode cX10_cutHeight 61 = .ok (.goto 8, 3) := by decide +kernel
theorem dX10_cutHeight_64 : decode cX10_cutHeight 64 = .ok (.aload_n 0, 1) := by decide +kernel
theorem dX10_cutHeight_65 : decode cX10_cutHeight 65 = .ok (.iconst 1, 1) := by decide +kernel
theorem dX10_cutHeight_66 : decode cX10_cutHeight 66 = .ok (.invokevirtual 90, 3) := by decide +kernel
theorem dX10_cutHeight_69 : decode cX10_cutHeight 69 = .ok (.ireturn, 1) := by decide +kernel
theorem dX10_climb_0 : decode cX10_climb 0 = .ok (.aload_n 0, 1) := by decide +kernel
theorem dX10_climb_1 : decode cX10_climb 1 = .ok (.iload_n 1, 1) := by decide +kernel
theorem dX10_climb_2 : decode cX10_climb 2 = .ok (.iload_n 2, 1) := by decide +kernel
theorem dX10_climb_3 : decode cX10_climb 3 = .ok (.iload_n 3, 1) := by decide +kernel
theorem dX10_climb_4 : decode cX10_climb 4 = .ok (.iload 4, 2) := by decide +kernel
theorem dX10_climb_6 : decode cX10_climb 6 = .ok (.invokevirtual 226, 3) := by decide +kernel
theorem dX10_climb_9 : decode cX10_climb 9 = .ok (.ifCond .ne 5, 3) := by decide +kernel
theorem dX10_climb_12 : decode cX10_climb 12 = .ok (.iconst 0, 1) := by decide +kernel
theorem dX10_climb_13 : decode cX10_climb 13 = .ok (.ireturn, 1) := by decide +kernel
theorem dX10_climb_14 : decode cX10_climb 14 = .ok (.bipush 7, 2) := by decide +kernel
theorem dX10_climb_16 : decode cX10_climb 16 = .ok (.iload_n 1, 1) := by decide +kernel
theorem dX10_climb_17 : decode cX10_climb 17 = .ok (.imul, 1) := by decide +kernel
theorem dX10_climb_18 : decode cX10_climb 18 = .ok (.iload_n 2, 1) := by decide +kernel
theorem dX10_climb_19 : decode cX10_climb 19 = .ok (.iadd, 1) := by decide +kernel
theorem dX10_climb_20 : decode cX10_climb 20 = .ok (.istore 5, 2) := by decide +kernel
theorem dX10_climb_22 : decode cX10_climb 22 = .ok (.bipush 7, 2) := by decide +kernel
theorem dX10_climb_24 : decode cX10_climb 24 = .ok (.iload_n 3, 1) := by decide +kernel
theorem dX10_climb_25 : decode cX10_climb 25 = .ok (.imul, 1) := by decide +kernel
theorem dX10_climb_26 : decode cX10_climb 26 = .ok (.iload 4, 2) := by decide +kernel
theorem dX10_climb_28 : decode cX10_climb 28 = .ok (.iadd, 1) := by decide +kernel
theorem dX10_climb_29 : decode cX10_climb 29 = .ok (.istore 6, 2) := by decide +kernel
theorem dX10_climb_31 : decode cX10_climb 31 = .ok (.iconst 0, 1) := by decide +kernel
theorem dX10_climb_32 : decode cX10_climb 32 = .ok (.istore 7, 2) := by decide +kernel
theorem dX10_climb_34 : decode cX10_climb 34 = .ok (.iconst 0, 1) := by decide +kernel
theorem dX10_climb_35 : decode cX10_climb 35 = .ok (.istore 8, 2) := by decide +kernel
theorem dX10_climb_37 : decode cX10_climb 37 = .ok (.iload 8, 2) := by decide +kernel
theorem dX10_climb_39 : decode cX10_climb 39 = .ok (.iload 5, 2) := by decide +kernel
theorem dX10_climb_41 : decode cX10_climb 41 = .ok (.iload 6, 2) := by decide +kernel
theorem dX10_climb_43 : decode cX10_climb 43 = .ok (.invokestatic 217, 3) := by decide +kernel
theorem dX10_climb_46 : decode cX10_climb 46 = .ok (.if_icmp .ge 58, 3) := by decide +kernel
theorem dX10_climb_49 : decode cX10_climb 49 = .ok (.aload_n 0, 1) := by decide +kernel
theorem dX10_climb_50 : decode cX10_climb 50 = .ok (.getfield 7, 3) := by decide +kernel
theorem dX10_climb_53 : decode cX10_climb 53 = .ok (.iload 5, 2) := by decide +kernel
theorem dX10_climb_55 : decode cX10_climb 55 = .ok (.iload 6, 2) := by decide +kernel
theorem dX10_climb_57 : decode cX10_climb 57 = .ok (.iload 8, 2) := by decide +kernel
theorem dX10_climb_59 : decode cX10_climb 59 = .ok (.iconst 1, 1) := by decide +kernel
theorem dX10_climb_60 : decode cX10_climb 60 = .ok (.iadd, 1) := by decide +kernel
theorem dX10_climb_61 : decode cX10_climb 61 = .ok (.invokestatic 220, 3) := by decide +kernel
theorem dX10_climb_64 : decode cX10_climb 64 = .ok (.iaload, 1) := by decide +kernel
theorem dX10_climb_65 : decode cX10_climb 65 = .ok (.aload_n 0, 1) := by decide +kernel
theorem dX10_climb_66 : decode cX10_climb 66 = .ok (.getfield 7, 3) := by decide +kernel
theorem dX10_climb_69 : decode cX10_climb 69 = .ok (.iload 5, 2) := by decide +kernel
theorem dX10_climb_71 : decode cX10_climb 71 = .ok (.iload 6, 2) := by decide +kernel
theorem dX10_climb_73 : decode cX10_climb 73 = .ok (.iload 8, 2) := by decide +kernel
theorem dX10_climb_75 : decode cX10_climb 75 = .ok (.invokestatic 220, 3) := by decide +kernel
theorem dX10_climb_78 : decode cX10_climb 78 = .ok (.iaload, 1) := by decide +kernel
theorem dX10_climb_79 : decode cX10_climb 79 = .ok (.isub, 1) := by decide +kernel
theorem dX10_climb_80 : decode cX10_climb 80 = .ok (.istore 9, 2) := by decide +kernel
theorem dX10_climb_82 : decode cX10_climb 82 = .ok (.iload 7, 2) := by decide +kernel
theorem dX10_climb_84 : decode cX10_climb 84 = .ok (.iload 9, 2) := by decide +kernel
theorem dX10_climb_86 : decode cX10_climb 86 = .ok (.ifCond .le 8, 3) := by decide +kernel
theorem dX10_climb_89 : decode cX10_climb 89 = .ok (.iload 9, 2) := by decide +kernel
theorem dX10_climb_91 : decode cX10_climb 91 = .ok (.goto 4, 3) := by decide +kernel
theorem dX10_climb_94 : decode cX10_climb 94 = .ok (.iconst 0, 1) := by decide +kernel
theorem dX10_climb_95 : decode cX10_climb 95 = .ok (.iadd, 1) := by decide +kernel
theorem dX10_climb_96 : decode cX10_climb 96 = .ok (.istore 7, 2) := by decide +kernel
theorem dX10_climb_98 : decode cX10_climb 98 = .ok (.iinc 8 1, 3) := by decide +kernel
theorem dX10_climb_101 : decode cX10_climb 101 = .ok (.goto (-64), 3) := by decide +kernel
theorem dX10_climb_104 : decode cX10_climb 104 = .ok (.iload 7, 2) := by decide +kernel
theorem dX10_climb_106 : decode cX10_climb 106 = .ok (.ireturn, 1) := by decide +kernel
theorem dX10_pass_0 : decode cX10_pass 0 = .ok (.aload_n 0, 1) := by decide +kernel
theorem dX10_pass_1 : decode cX10_pass 1 = .ok (.iload_n 1, 1) := by decide +kernel
theorem dX10_pass_2 : decode cX10_pass 2 = .ok (.iload_n 2, 1) := by decide +kernel
theorem dX10_pass_3 : decode cX10_pass 3 = .ok (.iload_n 3, 1) := by decide +kernel
theorem dX10_pass_4 : decode cX10_pass 4 = .ok (.iload 4, 2) := by decide +kernel
theorem dX10_pass_6 : decode cX10_pass 6 = .ok (.invokevirtual 226, 3) := by decide +kernel
theorem dX10_pass_9 : decode cX10_pass 9 = .ok (.ifCond .ne 5, 3) := by decide +kernel
theorem dX10_pass_12 : decode cX10_pass 12 = .ok (.iconst 0, 1) := by decide +kernel
theorem dX10_pass_13 : decode cX10_pass 13 = .ok (.ireturn, 1) := by decide +kernel
theorem dX10_pass_14 : decode cX10_pass 14 = .ok (.bipush 7, 2) := by decide +kernel
theorem dX10_pass_16 : decode cX10_pass 16 = .ok (.iload_n 1, 1) := by decide +kernel
theorem dX10_pass_17 : decode cX10_pass 17 = .ok (.imul, 1) := by decide +kernel
theorem dX10_pass_18 : decode cX10_pass 18 = .ok (.iload_n 2, 1) := by decide +kernel
theorem dX10_pass_19 : decode cX10_pass 19 = .ok (.iadd, 1) := by decide +kernel
theorem dX10_pass_20 : decode cX10_pass 20 = .ok (.istore 5, 2) := by decide +kernel
theorem dX10_pass_22 : decode cX10_pass 22 = .ok (.bipush 7, 2) := by decide +kernel
theorem dX10_pass_24 : decode cX10_pass 24 = .ok (.iload_n 3, 1) := by decide +kernel
theorem dX10_pass_25 : decode cX10_pass 25 = .ok (.imul, 1) := by decide +kernel
theorem dX10_pass_26 : decode cX10_pass 26 = .ok (.iload 4, 2) := by decide +kernel
theorem dX10_pass_28 : decode cX10_pass 28 = .ok (.iadd, 1) := by decide +kernel
theorem dX10_pass_29 : decode cX10_pass 29 = .ok (.istore 6, 2) := by decide +kernel
theorem dX10_pass_31 : decode cX10_pass 31 = .ok (.iconst 0, 1) := by decide +kernel
theorem dX10_pass_32 : decode cX10_pass 32 = .ok (.istore 7, 2) := by decide +kernel
theorem dX10_pass_34 : decode cX10_pass 34 = .ok (.iconst 0, 1) := by decide +kernel
theorem dX10_pass_35 : decode cX10_pass 35 = .ok (.istore 8, 2) := by decide +kernel
theorem dX10_pass_37 : decode cX10_pass 37 = .ok (.iload 8, 2) := by decide +kernel
theorem dX10_pass_39 : decode cX10_pass 39 = .ok (.iload 5, 2) := by decide +kernel
theorem dX10_pass_41 : decode cX10_pass 41 = .ok (.iload 6, 2) := by decide +kernel
theorem dX10_pass_43 : decode cX10_pass 43 = .ok (.invokestatic 217, 3) := by decide +kernel
theorem dX10_pass_46 : decode cX10_pass 46 = .ok (.if_icmp .gt 41, 3) := by decide +kernel
theorem dX10_pass_49 : decode cX10_pass 49 = .ok (.aload_n 0, 1) := by decide +kernel
theorem dX10_pass_50 : decode cX10_pass 50 = .ok (.getfield 7, 3) := by decide +kernel
theorem dX10_pass_53 : decode cX10_pass 53 = .ok (.iload 5, 2) := by decide +kernel
theorem dX10_pass_55 : decode cX10_pass 55 = .ok (.iload 6, 2) := by decide +kernel
theorem dX10_pass_57 : decode cX10_pass 57 = .ok (.iload 8, 2) := by decide +kernel
theorem dX10_pass_59 : decode cX10_pass 59 = .ok (.invokestatic 220, 3) := by decide +kernel
theorem dX10_pass_62 : decode cX10_pass 62 = .ok (.iaload, 1) := by decide +kernel
theorem dX10_pass_63 : decode cX10_pass 63 = .ok (.istore 9, 2) := by decide +kernel
theorem dX10_pass_65 : decode cX10_pass 65 = .ok (.iload 9, 2) := by decide +kernel
theorem dX10_pass_67 : decode cX10_pass 67 = .ok (.iload 7, 2) := by decide +kernel
theorem dX10_pass_69 : decode cX10_pass 69 = .ok (.if_icmp .le 8, 3) := by decide +kernel
theorem dX10_pass_72 : decode cX10_pass 72 = .ok (.iload 9, 2) := by decide +kernel
theorem dX10_pass_74 : decode cX10_pass 74 = .ok (.goto 5, 3) := by decide +kernel
theorem dX10_pass_77 : decode cX10_pass 77 = .ok (.iload 7, 2) := by decide +kernel
theorem dX10_pass_79 : decode cX10_pass 79 = .ok (.istore 7, 2) := by decide +kernel
theorem dX10_pass_81 : decode cX10_pass 81 = .ok (.iinc 8 1, 3) := by decide +kernel
theorem dX10_pass_84 : decode cX10_pass 84 = .ok (.goto (-47), 3) := by decide +kernel
theorem dX10_pass_87 : decode cX10_pass 87 = .ok (.iload 7, 2) := by decide +kernel
theorem dX10_pass_89 : decode cX10_pass 89 = .ok (.ireturn, 1) := by decide +kernel
theorem dX10_sees_0 : decode cX10_sees 0 = .ok (.aload_n 0, 1) := by decide +kernel
theorem dX10_sees_1 : decode cX10_sees 1 = .ok (.iload_n 1, 1) := by decide +kernel
theorem dX10_sees_2 : decode cX10_sees 2 = .ok (.iload_n 2, 1) := by decide +kernel
theorem dX10_sees_3 : decode cX10_sees 3 = .ok (.iload_n 3, 1) := by decide +kernel
theorem dX10_sees_4 : decode cX10_sees 4 = .ok (.iload 4, 2) := by decide +kernel
theorem dX10_sees_6 : decode cX10_sees 6 = .ok (.invokevirtual 226, 3) := by decide +kernel
theorem dX10_sees_9 : decode cX10_sees 9 = .ok (.ifCond .eq 27, 3) := by decide +kernel
theorem dX10_sees_12 : decode cX10_sees 12 = .ok (.aload_n 0, 1) := by decide +kernel
theorem dX10_sees_13 : decode cX10_sees 13 = .ok (.bipush 7, 2) := by decide +kernel
theorem dX10_sees_15 : decode cX10_sees 15 = .ok (.iload_n 1, 1) := by decide +kernel
theorem dX10_sees_16 : decode cX10_sees 16 = .ok (.imul, 1) := by decide +kernel
theorem dX10_sees_17 : decode cX10_sees 17 = .ok (.iload_n 2, 1) := by decide +kernel
theorem dX10_sees_18 : decode cX10_sees 18 = .ok (.iadd, 1) := by decide +kernel
theorem dX10_sees_19 : decode cX10_sees 19 = .ok (.bipush 7, 2) := by decide +kernel
theorem dX10_sees_21 : decode cX10_sees 21 = .ok (.iload_n 3, 1) := by decide +kernel
theorem dX10_sees_22 : decode cX10_sees 22 = .ok (.imul, 1) := by decide +kernel
theorem dX10_sees_23 : decode cX10_sees 23 = .ok (.iload 4, 2) := by decide +kernel
theorem dX10_sees_25 : decode cX10_sees 25 = .ok (.iadd, 1) := by decide +kernel
theorem dX10_sees_26 : decode cX10_sees 26 = .ok (.invokevirtual 223, 3) := by decide +kernel
theorem dX10_sees_29 : decode cX10_sees 29 = .ok (.ifCond .eq 7, 3) := by decide +kernel
theorem dX10_sees_32 : decode cX10_sees 32 = .ok (.iconst 1, 1) := by decide +kernel
theorem dX10_sees_33 : decode cX10_sees 33 = .ok (.goto 4, 3) := by decide +kernel
theorem dX10_sees_36 : decode cX10_sees 36 = .ok (.iconst 0, 1) := by decide +kernel
theorem dX10_sees_37 : decode cX10_sees 37 = .ok (.ireturn, 1) := by decide +kernel
theorem dX10_seenFrom_0 : decode cX10_seenFrom 0 = .ok (.aload_n 0, 1) := by decide +kernel
theorem dX10_seenFrom_1 : decode cX10_seenFrom 1 = .ok (.iload_n 1, 1) := by decide +kernel
theorem dX10_seenFrom_2 : decode cX10_seenFrom 2 = .ok (.iload_n 2, 1) := by decide +kernel
theorem dX10_seenFrom_3 : decode cX10_seenFrom 3 = .ok (.invokevirtual 120, 3) := by decide +kernel
theorem dX10_seenFrom_6 : decode cX10_seenFrom 6 = .ok (.ifCond .eq 16, 3) := by decide +kernel
theorem dX10_seenFrom_9 : decode cX10_seenFrom 9 = .ok (.aload_n 0, 1) := by decide +kernel
theorem dX10_seenFrom_10 : decode cX10_seenFrom 10 = .ok (.bipush 7, 2) := by decide +kernel
theorem dX10_seenFrom_12 : decode cX10_seenFrom 12 = .ok (.iload_n 1, 1) := by decide +kernel
theorem dX10_seenFrom_13 : decode cX10_seenFrom 13 = .ok (.imul, 1) := by decide +kernel
theorem dX10_seenFrom_14 : decode cX10_seenFrom 14 = .ok (.iload_n 2, 1) := by decide +kernel
theorem dX10_seenFrom_15 : decode cX10_seenFrom 15 = .ok (.iadd, 1) := by decide +kernel
theorem dX10_seenFrom_16 : decode cX10_seenFrom 16 = .ok (.invokevirtual 230, 3) := by decide +kernel
theorem dX10_seenFrom_19 : decode cX10_seenFrom 19 = .ok (.goto 4, 3) := by decide +kernel
theorem dX10_seenFrom_22 : decode cX10_seenFrom 22 = .ok (.iconst 0, 1) := by decide +kernel
theorem dX10_seenFrom_23 : decode cX10_seenFrom 23 = .ok (.ireturn, 1) := by decide +kernel
theorem dX10_outlook_0 : decode cX10_outlook 0 = .ok (.iconst 0, 1) := by decide +kernel
theorem dX10_outlook_1 : decode cX10_outlook 1 = .ok (.istore_n 1, 1) := by decide +kernel
theorem dX10_outlook_2 : decode cX10_outlook 2 = .ok (.iconst (-1), 1) := by decide +kernel
theorem dX10_outlook_3 : decode cX10_outlook 3 = .ok (.istore_n 2, 1) := by decide +kernel
theorem dX10_outlook_4 : decode cX10_outlook 4 = .ok (.iconst 0, 1) := by decide +kernel
theorem dX10_outlook_5 : decode cX10_outlook 5 = .ok (.istore_n 3, 1) := by decide +kernel
theorem dX10_outlook_6 : decode cX10_outlook 6 = .ok (.iload_n 3, 1) := by decide +kernel
theorem dX10_outlook_7 : decode cX10_outlook 7 = .ok (.bipush 49, 2) := by decide +kernel
theorem dX10_outlook_9 : decode cX10_outlook 9 = .ok (.if_icmp .ge 41, 3) := by decide +kernel
theorem dX10_outlook_12 : decode cX10_outlook 12 = .ok (.aload_n 0, 1) := by decide +kernel
theorem dX10_outlook_13 : decode cX10_outlook 13 = .ok (.iload_n 3, 1) := by decide +kernel
theorem dX10_outlook_14 : decode cX10_outlook 14 = .ok (.invokevirtual 230, 3) := by decide +kernel
theorem dX10_outlook_17 : decode cX10_outlook 17 = .ok (.istore 4, 2) := by decide +kernel
theorem dX10_outlook_19 : decode cX10_outlook 19 = .ok (.iload 4, 2) := by decide +kernel
theorem dX10_outlook_21 : decode cX10_outlook 21 = .ok (.iload_n 2, 1) := by decide +kernel
theorem dX10_outlook_22 : decode cX10_outlook 22 = .ok (.if_icmp .le 7, 3) := by decide +kernel
theorem dX10_outlook_25 : decode cX10_outlook 25 = .ok (.iload_n 3, 1) := by decide +kernel
theorem dX10_outlook_26 : decode cX10_outlook 26 = .ok (.goto 4, 3) := by decide +kernel
theorem dX10_outlook_29 : decode cX10_outlook 29 = .ok (.iload_n 1, 1) := by decide +kernel
theorem dX10_outlook_30 : decode cX10_outlook 30 = .ok (.istore_n 1, 1) := by decide +kernel
theorem dX10_outlook_31 : decode cX10_outlook 31 = .ok (.iload 4, 2) := by decide +kernel
theorem dX10_outlook_33 : decode cX10_outlook 33 = .ok (.iload_n 2, 1) := by decide +kernel
theorem dX10_outlook_34 : decode cX10_outlook 34 = .ok (.if_icmp .le 8, 3) := by decide +kernel
theorem dX10_outlook_37 : decode cX10_outlook 37 = .ok (.iload 4, 2) := by decide +kernel
theorem dX10_outlook_39 : decode cX10_outlook 39 = .ok (.goto 4, 3) := by decide +kernel
theorem dX10_outlook_42 : decode cX10_outlook 42 = .ok (.iload_n 2, 1) := by decide +kernel
theorem dX10_outlook_43 : decode cX10_outlook 43 = .ok (.istore_n 2, 1) := by decide +kernel
theorem dX10_outlook_44 : decode cX10_outlook 44 = .ok (.iinc 3 1, 3) := by decide +kernel
theorem dX10_outlook_47 : decode cX10_outlook 47 = .ok (.goto (-41), 3) := by decide +kernel
theorem dX10_outlook_50 : decode cX10_outlook 50 = .ok (.iload_n 1, 1) := by decide +kernel
theorem dX10_outlook_51 : decode cX10_outlook 51 = .ok (.ireturn, 1) := by decide +kernel
theorem dX10_lookout_0 : decode cX10_lookout 0 = .ok (.aload_n 0, 1) := by decide +kernel
theorem dX10_lookout_1 : decode cX10_lookout 1 = .ok (.iconst 0, 1) := by decide +kernel
theorem dX10_lookout_2 : decode cX10_lookout 2 = .ok (.putfield 44, 3) := by decide +kernel
theorem dX10_lookout_5 : decode cX10_lookout 5 = .ok (.aload_n 0, 1) := by decide +kernel
theorem dX10_lookout_6 : decode cX10_lookout 6 = .ok (.invokevirtual 233, 3) := by decide +kernel
theorem dX10_lookout_9 : decode cX10_lookout 9 = .ok (.ireturn, 1) := by decide +kernel
theorem dX10_mean_0 : decode cX10_mean 0 = .ok (.iconst 0, 1) := by decide +kernel
theorem dX10_mean_1 : decode cX10_mean 1 = .ok (.istore_n 1, 1) := by decide +kernel
theorem dX10_mean_2 : decode cX10_mean 2 = .ok (.iconst 0, 1) := by decide +kernel
theorem dX10_mean_3 : decode cX10_mean 3 = .ok (.istore_n 2, 1) := by decide +kernel
theorem dX10_mean_4 : decode cX10_mean 4 = .ok (.iload_n 2, 1) := by decide +kernel
theorem dX10_mean_5 : decode cX10_mean 5 = .ok (.bipush 49, 2) := by decide +kernel
theorem dX10_mean_7 : decode cX10_mean 7 = .ok (.if_icmp .ge 17, 3) := by decide +kernel
theorem dX10_mean_10 : decode cX10_mean 10 = .ok (.iload_n 1, 1) := by decide +kernel
theorem dX10_mean_11 : decode cX10_mean 11 = .ok (.aload_n 0, 1) := by decide +kernel
theorem dX10_mean_12 : decode cX10_mean 12 = .ok (.iload_n 2, 1) := by decide +kernel
theorem dX10_mean_13 : decode cX10_mean 13 = .ok (.invokevirtual 77, 3) := by decide +kernel
theorem dX10_mean_16 : decode cX10_mean 16 = .ok (.iadd, 1) := by decide +kernel
theorem dX10_mean_17 : decode cX10_mean 17 = .ok (.istore_n 1, 1) := by decide +kernel
theorem dX10_mean_18 : decode cX10_mean 18 = .ok (.iinc 2 1, 3) := by decide +kernel
theorem dX10_mean_21 : decode cX10_mean 21 = .ok (.goto (-17), 3) := by decide +kernel
theorem dX10_mean_24 : decode cX10_mean 24 = .ok (.iload_n 1, 1) := by decide +kernel
theorem dX10_mean_25 : decode cX10_mean 25 = .ok (.i2d, 1) := by decide +kernel
theorem dX10_mean_26 : decode cX10_mean 26 = .ok (.ldc2_w 236, 3) := by decide +kernel
theorem dX10_mean_29 : decode cX10_mean 29 = .ok (.ddiv, 1) := by decide +kernel
theorem dX10_mean_30 : decode cX10_mean 30 = .ok (.dreturn, 1) := by decide +kernel
theorem dX10_meanDrop_0 : decode cX10_meanDrop 0 = .ok (.aload_n 0, 1) := by decide +kernel
theorem dX10_meanDrop_1 : decode cX10_meanDrop 1 = .ok (.iconst 0, 1) := by decide +kernel
theorem dX10_meanDrop_2 : decode cX10_meanDrop 2 = .ok (.putfield 44, 3) := by decide +kernel
theorem dX10_meanDrop_5 : decode cX10_meanDrop 5 = .ok (.aload_n 0, 1) := by decide +kernel
theorem dX10_meanDrop_6 : decode cX10_meanDrop 6 = .ok (.invokevirtual 238, 3) := by decide +kernel
theorem dX10_meanDrop_9 : decode cX10_meanDrop 9 = .ok (.dreturn, 1) := by decide +kernel
theorem dX10_bitsOf_0 : decode cX10_bitsOf 0 = .ok (.dload_n 0, 1) := by decide +kernel
theorem dX10_bitsOf_1 : decode cX10_bitsOf 1 = .ok (.dconst 0, 1) := by decide +kernel
theorem dX10_bitsOf_2 : decode cX10_bitsOf 2 = .ok (.dcmp .l, 1) := by decide +kernel
theorem dX10_bitsOf_3 : decode cX10_bitsOf 3 = .ok (.ifCond .ne 5, 3) := by decide +kernel
theorem dX10_bitsOf_6 : decode cX10_bitsOf 6 = .ok (.lconst 0, 1) := by decide +kernel
theorem dX10_bitsOf_7 : decode cX10_bitsOf 7 = .ok (.lreturn, 1) := by decide +kernel
theorem dX10_bitsOf_8 : decode cX10_bitsOf 8 = .ok (.dload_n 0, 1) := by decide +kernel
theorem dX10_bitsOf_9 : decode cX10_bitsOf 9 = .ok (.dstore 4, 2) := by decide +kernel
theorem dX10_bitsOf_11 : decode cX10_bitsOf 11 = .ok (.iload_n 3, 1) := by decide +kernel
theorem dX10_bitsOf_12 : decode cX10_bitsOf 12 = .ok (.istore 6, 2) := by decide +kernel
theorem dX10_bitsOf_14 : decode cX10_bitsOf 14 = .ok (.dload 4, 2) := by decide +kernel
theorem dX10_bitsOf_16 : decode cX10_bitsOf 16 = .ok (.ldc2_w 242, 3) := by decide +kernel
theorem dX10_bitsOf_19 : decode cX10_bitsOf 19 = .ok (.dcmp .l, 1) := by decide +kernel
theorem dX10_bitsOf_20 : decode cX10_bitsOf 20 = .ok (.ifCond .lt 17, 3) := by decide +kernel
theorem dX10_bitsOf_23 : decode cX10_bitsOf 23 = .ok (.dload 4, 2) := by decide +kernel
theorem dX10_bitsOf_25 : decode cX10_bitsOf 25 = .ok (.ldc2_w 242, 3) := by decide +kernel
theorem dX10_bitsOf_28 : decode cX10_bitsOf 28 = .ok (.ddiv, 1) := by decide +kernel
theorem dX10_bitsOf_29 : decode cX10_bitsOf 29 = .ok (.dstore 4, 2) := by decide +kernel
theorem dX10_bitsOf_31 : decode cX10_bitsOf 31 = .ok (.iinc 6 1, 3) := by decide +kernel
theorem dX10_bitsOf_34 : decode cX10_bitsOf 34 = .ok (.goto (-20), 3) := by decide +kernel
theorem dX10_bitsOf_37 : decode cX10_bitsOf 37 = .ok (.dload 4, 2) := by decide +kernel
theorem dX10_bitsOf_39 : decode cX10_bitsOf 39 = .ok (.dconst 1, 1) := by decide +kernel
theorem dX10_bitsOf_40 : decode cX10_bitsOf 40 = .ok (.dcmp .g, 1) := by decide +kernel
theorem dX10_bitsOf_41 : decode cX10_bitsOf 41 = .ok (.ifCond .ge 17, 3) := by decide +kernel
theorem dX10_bitsOf_44 : decode cX10_bitsOf 44 = .ok (.dload 4, 2) := by decide +kernel
theorem dX10_bitsOf_46 : decode cX10_bitsOf 46 = .ok (.ldc2_w 242, 3) := by decide +kernel
theorem dX10_bitsOf_49 : decode cX10_bitsOf 49 = .ok (.dmul, 1) := by decide +kernel
theorem dX10_bitsOf_50 : decode cX10_bitsOf 50 = .ok (.dstore 4, 2) := by decide +kernel
theorem dX10_bitsOf_52 : decode cX10_bitsOf 52 = .ok (.iinc 6 (-1), 3) := by decide +kernel
theorem dX10_bitsOf_55 : decode cX10_bitsOf 55 = .ok (.goto (-18), 3) := by decide +kernel
theorem dX10_bitsOf_58 : decode cX10_bitsOf 58 = .ok (.dload 4, 2) := by decide +kernel
theorem dX10_bitsOf_60 : decode cX10_bitsOf 60 = .ok (.dconst 1, 1) := by decide +kernel
theorem dX10_bitsOf_61 : decode cX10_bitsOf 61 = .ok (.dsub, 1) := by decide +kernel
theorem dX10_bitsOf_62 : decode cX10_bitsOf 62 = .ok (.dstore 7, 2) := by decide +kernel
theorem dX10_bitsOf_64 : decode cX10_bitsOf 64 = .ok (.iload 6, 2) := by decide +kernel
theorem dX10_bitsOf_66 : decode cX10_bitsOf 66 = .ok (.i2l, 1) := by decide +kernel
theorem dX10_bitsOf_67 : decode cX10_bitsOf 67 = .ok (.lstore 9, 2) := by decide +kernel
theorem dX10_bitsOf_69 : decode cX10_bitsOf 69 = .ok (.iconst 0, 1) := by decide +kernel
theorem dX10_bitsOf_70 : decode cX10_bitsOf 70 = .ok (.istore 11, 2) := by decide +kernel
theorem dX10_bitsOf_72 : decode cX10_bitsOf 72 = .ok (.iload 11, 2) := by decide +kernel
theorem dX10_bitsOf_74 : decode cX10_bitsOf 74 = .ok (.iload_n 2, 1) := by decide +kernel
theorem dX10_bitsOf_75 : decode cX10_bitsOf 75 = .ok (.if_icmp .ge 50, 3) := by decide +kernel
theorem dX10_bitsOf_78 : decode cX10_bitsOf 78 = .ok (.dload 7, 2) := by decide +kernel
theorem dX10_bitsOf_80 : decode cX10_bitsOf 80 = .ok (.ldc2_w 242, 3) := by decide +kernel
theorem dX10_bitsOf_83 : decode cX10_bitsOf 83 = .ok (.dmul, 1) := by decide +kernel
theorem dX10_bitsOf_84 : decode cX10_bitsOf 84 = .ok (.dstore 7, 2) := by decide +kernel
theorem dX10_bitsOf_86 : decode cX10_bitsOf 86 = .ok (.dload 7, 2) := by decide +kernel
theorem dX10_bitsOf_88 : decode cX10_bitsOf 88 = .ok (.dconst 1, 1) := by decide +kernel
theorem dX10_bitsOf_89 : decode cX10_bitsOf 89 = .ok (.dcmp .l, 1) := by decide +kernel
theorem dX10_bitsOf_90 : decode cX10_bitsOf 90 = .ok (.ifCond .lt 7, 3) := by decide +kernel
theorem dX10_bitsOf_93 : decode cX10_bitsOf 93 = .ok (.lconst 1, 1) := by decide +kernel
theorem dX10_bitsOf_94 : decode cX10_bitsOf 94 = .ok (.goto 4, 3) := by decide +kernel
theorem dX10_bitsOf_97 : decode cX10_bitsOf 97 = .ok (.lconst 0, 1) := by decide +kernel
theorem dX10_bitsOf_98 : decode cX10_bitsOf 98 = .ok (.lstore 12, 2) := by decide +kernel
theorem dX10_bitsOf_100 : decode cX10_bitsOf 100 = .ok (.dload 7, 2) := by decide +kernel
theorem dX10_bitsOf_102 : decode cX10_bitsOf 102 = .ok (.lload 12, 2) := by decide +kernel
theorem dX10_bitsOf_104 : decode cX10_bitsOf 104 = .ok (.l2d, 1) := by decide +kernel
theorem dX10_bitsOf_105 : decode cX10_bitsOf 105 = .ok (.dsub, 1) := by decide +kernel
theorem dX10_bitsOf_106 : decode cX10_bitsOf 106 = .ok (.dstore 7, 2) := by decide +kernel
theorem dX10_bitsOf_108 : decode cX10_bitsOf 108 = .ok (.ldc2_w 244, 3) := by decide +kernel
theorem dX10_bitsOf_111 : decode cX10_bitsOf 111 = .ok (.lload 9, 2) := by decide +kernel
theorem dX10_bitsOf_113 : decode cX10_bitsOf 113 = .ok (.lmul, 1) := by decide +kernel
theorem dX10_bitsOf_114 : decode cX10_bitsOf 114 = .ok (.lload 12, 2) := by decide +kernel
theorem dX10_bitsOf_116 : decode cX10_bitsOf 116 = .ok (.ladd, 1) := by decide +kernel
theorem dX10_bitsOf_117 : decode cX10_bitsOf 117 = .ok (.lstore 9, 2) := by decide +kernel
theorem dX10_bitsOf_119 : decode cX10_bitsOf 119 = .ok (.iinc 11 1, 3) := by decide +kernel
theorem dX10_bitsOf_122 : decode cX10_bitsOf 122 = .ok (.goto (-50), 3) := by decide +kernel
theorem dX10_bitsOf_125 : decode cX10_bitsOf 125 = .ok (.lload 9, 2) := by decide +kernel
theorem dX10_bitsOf_127 : decode cX10_bitsOf 127 = .ok (.lreturn, 1) := by decide +kernel
theorem dX10_mix_0 : decode cX10_mix 0 = .ok (.aload_n 0, 1) := by decide +kernel
theorem dX10_mix_1 : decode cX10_mix 1 = .ok (.ldc2_w 246, 3) := by decide +kernel
theorem dX10_mix_4 : decode cX10_mix 4 = .ok (.aload_n 0, 1) := by decide +kernel
theorem dX10_mix_5 : decode cX10_mix 5 = .ok (.getfield 248, 3) := by decide +kernel
theorem dX10_mix_8 : decode cX10_mix 8 = .ok (.lmul, 1) := by decide +kernel
theorem dX10_mix_9 : decode cX10_mix 9 = .ok (.lload_n 1, 1) := by decide +kernel
theorem dX10_mix_10 : decode cX10_mix 10 = .ok (.ladd, 1) := by decide +kernel
theorem dX10_mix_11 : decode cX10_mix 11 = .ok (.putfield 248, 3) := by decide +kernel
theorem dX10_mix_14 : decode cX10_mix 14 = .ok (.return_, 1) := by decide +kernel
theorem dX10_mixesLevel_0 : decode cX10_mixesLevel 0 = .ok (.aload_n 0, 1) := by decide +kernel
theorem dX10_mixesLevel_1 : decode cX10_mixesLevel 1 = .ok (.aload_n 0, 1) := by decide +kernel
theorem dX10_mixesLevel_2 : decode cX10_mixesLevel 2 = .ok (.iload_n 1, 1) := by decide +kernel
theorem dX10_mixesLevel_3 : decode cX10_mixesLevel 3 = .ok (.invokevirtual 136, 3) := by decide +kernel
theorem dX10_mixesLevel_6 : decode cX10_mixesLevel 6 = .ok (.i2l, 1) := by decide +kernel
theorem dX10_mixesLevel_7 : decode cX10_mixesLevel 7 = .ok (.invokevirtual 252, 3) := by decide +kernel
theorem dX10_mixesLevel_10 : decode cX10_mixesLevel 10 = .ok (.aload_n 0, 1) := by decide +kernel
theorem dX10_mixesLevel_11 : decode cX10_mixesLevel 11 = .ok (.aload_n 0, 1) := by decide +kernel
theorem dX10_mixesLevel_12 : decode cX10_mixesLevel 12 = .ok (.iload_n 1, 1) := by decide +kernel
theorem dX10_mixesLevel_13 : decode cX10_mixesLevel 13 = .ok (.invokevirtual 139, 3) := by decide +kernel
theorem dX10_mixesLevel_16 : decode cX10_mixesLevel 16 = .ok (.i2l, 1) := by decide +kernel
theorem dX10_mixesLevel_17 : decode cX10_mixesLevel 17 = .ok (.invokevirtual 252, 3) := by decide +kernel
theorem dX10_mixesLevel_20 : decode cX10_mixesLevel 20 = .ok (.aload_n 0, 1) := by decide +kernel
theorem dX10_mixesLevel_21 : decode cX10_mixesLevel 21 = .ok (.aload_n 0, 1) := by decide +kernel
theorem dX10_mixesLevel_22 : decode cX10_mixesLevel 22 = .ok (.iload_n 1, 1) := by decide +kernel
theorem dX10_mixesLevel_23 : decode cX10_mixesLevel 23 = .ok (.invokevirtual 171, 3) := by decide +kernel
theorem dX10_mixesLevel_26 : decode cX10_mixesLevel 26 = .ok (.i2l, 1) := by decide +kernel
theorem dX10_mixesLevel_27 : decode cX10_mixesLevel 27 = .ok (.invokevirtual 252, 3) := by decide +kernel
theorem dX10_mixesLevel_30 : decode cX10_mixesLevel 30 = .ok (.aload_n 0, 1) := by decide +kernel
theorem dX10_mixesLevel_31 : decode cX10_mixesLevel 31 = .ok (.aload_n 0, 1) := by decide +kernel
theorem dX10_mixesLevel_32 : decode cX10_mixesLevel 32 = .ok (.iload_n 1, 1) := by decide +kernel
theorem dX10_mixesLevel_33 : decode cX10_mixesLevel 33 = .ok (.invokevirtual 171, 3) := by decide +kernel
theorem dX10_mixesLevel_36 : decode cX10_mixesLevel 36 = .ok (.i2l, 1) := by decide +kernel
theorem dX10_mixesLevel_37 : decode cX10_mixesLevel 37 = .ok (.invokevirtual 252, 3) := by decide +kernel
theorem dX10_mixesLevel_40 : decode cX10_mixesLevel 40 = .ok (.aload_n 0, 1) := by decide +kernel
theorem dX10_mixesLevel_41 : decode cX10_mixesLevel 41 = .ok (.aload_n 0, 1) := by decide +kernel
theorem dX10_mixesLevel_42 : decode cX10_mixesLevel 42 = .ok (.iload_n 1, 1) := by decide +kernel
theorem dX10_mixesLevel_43 : decode cX10_mixesLevel 43 = .ok (.iconst 0, 1) := by decide +kernel
theorem dX10_mixesLevel_44 : decode cX10_mixesLevel 44 = .ok (.invokevirtual 174, 3) := by decide +kernel
theorem dX10_mixesLevel_47 : decode cX10_mixesLevel 47 = .ok (.i2l, 1) := by decide +kernel
theorem dX10_mixesLevel_48 : decode cX10_mixesLevel 48 = .ok (.invokevirtual 252, 3) := by decide +kernel
theorem dX10_mixesLevel_51 : decode cX10_mixesLevel 51 = .ok (.aload_n 0, 1) := by decide +kernel
theorem dX10_mixesLevel_52 : decode cX10_mixesLevel 52 = .ok (.aload_n 0, 1) := by decide +kernel
theorem dX10_mixesLevel_53 : decode cX10_mixesLevel 53 = .ok (.iload_n 1, 1) := by decide +kernel
theorem dX10_mixesLevel_54 : decode cX10_mixesLevel 54 = .ok (.iconst 0, 1) := by decide +kernel
theorem dX10_mixesLevel_55 : decode cX10_mixesLevel 55 = .ok (.invokevirtual 174, 3) := by decide +kernel
theorem dX10_mixesLevel_58 : decode cX10_mixesLevel 58 = .ok (.i2l, 1) := by decide +kernel
theorem dX10_mixesLevel_59 : decode cX10_mixesLevel 59 = .ok (.invokevirtual 252, 3) := by decide +kernel
theorem dX10_mixesLevel_62 : decode cX10_mixesLevel 62 = .ok (.aload_n 0, 1) := by decide +kernel
theorem dX10_mixesLevel_63 : decode cX10_mixesLevel 63 = .ok (.aload_n 0, 1) := by decide +kernel
theorem dX10_mixesLevel_64 : decode cX10_mixesLevel 64 = .ok (.iload_n 1, 1) := by decide +kernel
theorem dX10_mixesLevel_65 : decode cX10_mixesLevel 65 = .ok (.iconst 1, 1) := by decide +kernel
theorem dX10_mixesLevel_66 : decode cX10_mixesLevel 66 = .ok (.invokevirtual 174, 3) := by decide +kernel
theorem dX10_mixesLevel_69 : decode cX10_mixesLevel 69 = .ok (.i2l, 1) := by decide +kernel
theorem dX10_mixesLevel_70 : decode cX10_mixesLevel 70 = .ok (.invokevirtual 252, 3) := by decide +kernel
theorem dX10_mixesLevel_73 : decode cX10_mixesLevel 73 = .ok (.aload_n 0, 1) := by decide +kernel
theorem dX10_mixesLevel_74 : decode cX10_mixesLevel 74 = .ok (.aload_n 0, 1) := by decide +kernel
theorem dX10_mixesLevel_75 : decode cX10_mixesLevel 75 = .ok (.iload_n 1, 1) := by decide +kernel
theorem dX10_mixesLevel_76 : decode cX10_mixesLevel 76 = .ok (.invokevirtual 178, 3) := by decide +kernel
theorem dX10_mixesLevel_79 : decode cX10_mixesLevel 79 = .ok (.i2l, 1) := by decide +kernel
theorem dX10_mixesLevel_80 : decode cX10_mixesLevel 80 = .ok (.invokevirtual 252, 3) := by decide +kernel
theorem dX10_mixesLevel_83 : decode cX10_mixesLevel 83 = .ok (.aload_n 0, 1) := by decide +kernel
theorem dX10_mixesLevel_84 : decode cX10_mixesLevel 84 = .ok (.aload_n 0, 1) := by decide +kernel
theorem dX10_mixesLevel_85 : decode cX10_mixesLevel 85 = .ok (.iload_n 1, 1) := by decide +kernel
theorem dX10_mixesLevel_86 : decode cX10_mixesLevel 86 = .ok (.iconst 1, 1) := by decide +kernel
theorem dX10_mixesLevel_87 : decode cX10_mixesLevel 87 = .ok (.invokevirtual 181, 3) := by decide +kernel
theorem dX10_mixesLevel_90 : decode cX10_mixesLevel 90 = .ok (.i2l, 1) := by decide +kernel
theorem dX10_mixesLevel_91 : decode cX10_mixesLevel 91 = .ok (.invokevirtual 252, 3) := by decide +kernel
theorem dX10_mixesLevel_94 : decode cX10_mixesLevel 94 = .ok (.aload_n 0, 1) := by decide +kernel
theorem dX10_mixesLevel_95 : decode cX10_mixesLevel 95 = .ok (.aload_n 0, 1) := by decide +kernel
theorem dX10_mixesLevel_96 : decode cX10_mixesLevel 96 = .ok (.iload_n 1, 1) := by decide +kernel
theorem dX10_mixesLevel_97 : decode cX10_mixesLevel 97 = .ok (.iconst 0, 1) := by decide +kernel
theorem dX10_mixesLevel_98 : decode cX10_mixesLevel 98 = .ok (.invokevirtual 181, 3) := by decide +kernel
theorem dX10_mixesLevel_101 : decode cX10_mixesLevel 101 = .ok (.i2l, 1) := by decide +kernel
theorem dX10_mixesLevel_102 : decode cX10_mixesLevel 102 = .ok (.invokevirtual 252, 3) := by decide +kernel
theorem dX10_mixesLevel_105 : decode cX10_mixesLevel 105 = .ok (.return_, 1) := by decide +kernel
theorem dX10_digest_0 : decode cX10_digest 0 = .ok (.aload_n 0, 1) := by decide +kernel
theorem dX10_digest_1 : decode cX10_digest 1 = .ok (.iconst 0, 1) := by decide +kernel
theorem dX10_digest_2 : decode cX10_digest 2 = .ok (.putfield 44, 3) := by decide +kernel
theorem dX10_digest_5 : decode cX10_digest 5 = .ok (.aload_n 0, 1) := by decide +kernel
theorem dX10_digest_6 : decode cX10_digest 6 = .ok (.ldc2_w 256, 3) := by decide +kernel
theorem dX10_digest_9 : decode cX10_digest 9 = .ok (.putfield 248, 3) := by decide +kernel
theorem dX10_digest_12 : decode cX10_digest 12 = .ok (.aload_n 0, 1) := by decide +kernel
theorem dX10_digest_13 : decode cX10_digest 13 = .ok (.invokevirtual 205, 3) := by decide +kernel
theorem dX10_digest_16 : decode cX10_digest 16 = .ok (.iconst 0, 1) := by decide +kernel
theorem dX10_digest_17 : decode cX10_digest 17 = .ok (.istore_n 1, 1) := by decide +kernel
theorem dX10_digest_18 : decode cX10_digest 18 = .ok (.iload_n 1, 1) := by decide +kernel
theorem dX10_digest_19 : decode cX10_digest 19 = .ok (.bipush 49, 2) := by decide +kernel
theorem dX10_digest_21 : decode cX10_digest 21 = .ok (.if_icmp .ge 130, 3) := by decide +kernel
theorem dX10_digest_24 : decode cX10_digest 24 = .ok (.aload_n 0, 1) := by decide +kernel
theorem dX10_digest_25 : decode cX10_digest 25 = .ok (.aload_n 0, 1) := by decide +kernel
theorem dX10_digest_26 : decode cX10_digest 26 = .ok (.getfield 7, 3) := by decide +kernel
theorem dX10_digest_29 : decode cX10_digest 29 = .ok (.iload_n 1, 1) := by decide +kernel
theorem dX10_digest_30 : decode cX10_digest 30 = .ok (.iaload, 1) := by decide +kernel
theorem dX10_digest_31 : decode cX10_digest 31 = .ok (.i2l, 1) := by decide +kernel
theorem dX10_digest_32 : decode cX10_digest 32 = .ok (.invokevirtual 252, 3) := by decide +kernel
theorem dX10_digest_35 : decode cX10_digest 35 = .ok (.aload_n 0, 1) := by decide +kernel
theorem dX10_digest_36 : decode cX10_digest 36 = .ok (.aload_n 0, 1) := by decide +kernel
theorem dX10_digest_37 : decode cX10_digest 37 = .ok (.iload_n 1, 1) := by decide +kernel
theorem dX10_digest_38 : decode cX10_digest 38 = .ok (.invokevirtual 77, 3) := by decide +kernel
theorem dX10_digest_41 : decode cX10_digest 41 = .ok (.i2l, 1) := by decide +kernel
theorem dX10_digest_42 : decode cX10_digest 42 = .ok (.invokevirtual 252, 3) := by decide +kernel
theorem dX10_digest_45 : decode cX10_digest 45 = .ok (.aload_n 0, 1) := by decide +kernel
theorem dX10_digest_46 : decode cX10_digest 46 = .ok (.aload_n 0, 1) := by decide +kernel
theorem dX10_digest_47 : decode cX10_digest 47 = .ok (.iload_n 1, 1) := by decide +kernel
theorem dX10_digest_48 : decode cX10_digest 48 = .ok (.invokevirtual 187, 3) := by decide +kernel
theorem dX10_digest_51 : decode cX10_digest 51 = .ok (.i2l, 1) := by decide +kernel
theorem dX10_digest_52 : decode cX10_digest 52 = .ok (.invokevirtual 252, 3) := by decide +kernel
theorem dX10_digest_55 : decode cX10_digest 55 = .ok (.aload_n 0, 1) := by decide +kernel
theorem dX10_digest_56 : decode cX10_digest 56 = .ok (.aload_n 0, 1) := by decide +kernel
theorem dX10_digest_57 : decode cX10_digest 57 = .ok (.iload_n 1, 1) := by decide +kernel
theorem dX10_digest_58 : decode cX10_digest 58 = .ok (.invokevirtual 184, 3) := by decide +kernel
theorem dX10_digest_61 : decode cX10_digest 61 = .ok (.i2l, 1) := by decide +kernel
theorem dX10_digest_62 : decode cX10_digest 62 = .ok (.invokevirtual 252, 3) := by decide +kernel
theorem dX10_digest_65 : decode cX10_digest 65 = .ok (.aload_n 0, 1) := by decide +kernel
theorem dX10_digest_66 : decode cX10_digest 66 = .ok (.aload_n 0, 1) := by decide +kernel
theorem dX10_digest_67 : decode cX10_digest 67 = .ok (.iload_n 1, 1) := by decide +kernel
theorem dX10_digest_68 : decode cX10_digest 68 = .ok (.invokevirtual 193, 3) := by decide +kernel
theorem dX10_digest_71 : decode cX10_digest 71 = .ok (.i2l, 1) := by decide +kernel
theorem dX10_digest_72 : decode cX10_digest 72 = .ok (.invokevirtual 252, 3) := by decide +kernel
theorem dX10_digest_75 : decode cX10_digest 75 = .ok (.aload_n 0, 1) := by decide +kernel
theorem dX10_digest_76 : decode cX10_digest 76 = .ok (.aload_n 0, 1) := by decide +kernel
theorem dX10_digest_77 : decode cX10_digest 77 = .ok (.iload_n 1, 1) := by decide +kernel
theorem dX10_digest_78 : decode cX10_digest 78 = .ok (.invokevirtual 190, 3) := by decide +kernel
theorem dX10_digest_81 : decode cX10_digest 81 = .ok (.i2l, 1) := by decide +kernel
theorem dX10_digest_82 : decode cX10_digest 82 = .ok (.invokevirtual 252, 3) := by decide +kernel
theorem dX10_digest_85 : decode cX10_digest 85 = .ok (.aload_n 0, 1) := by decide +kernel
theorem dX10_digest_86 : decode cX10_digest 86 = .ok (.aload_n 0, 1) := by decide +kernel
theorem dX10_digest_87 : decode cX10_digest 87 = .ok (.iload_n 1, 1) := by decide +kernel
theorem dX10_digest_88 : decode cX10_digest 88 = .ok (.invokevirtual 190, 3) := by decide +kernel
theorem dX10_digest_91 : decode cX10_digest 91 = .ok (.i2l, 1) := by decide +kernel
theorem dX10_digest_92 : decode cX10_digest 92 = .ok (.invokevirtual 252, 3) := by decide +kernel
theorem dX10_digest_95 : decode cX10_digest 95 = .ok (.aload_n 0, 1) := by decide +kernel
theorem dX10_digest_96 : decode cX10_digest 96 = .ok (.aload_n 0, 1) := by decide +kernel
theorem dX10_digest_97 : decode cX10_digest 97 = .ok (.getfield 41, 3) := by decide +kernel
theorem dX10_digest_100 : decode cX10_digest 100 = .ok (.iload_n 1, 1) := by decide +kernel
theorem dX10_digest_101 : decode cX10_digest 101 = .ok (.iaload, 1) := by decide +kernel
theorem dX10_digest_102 : decode cX10_digest 102 = .ok (.i2l, 1) := by decide +kernel
theorem dX10_digest_103 : decode cX10_digest 103 = .ok (.invokevirtual 252, 3) := by decide +kernel
theorem dX10_digest_106 : decode cX10_digest 106 = .ok (.aload_n 0, 1) := by decide +kernel
theorem dX10_digest_107 : decode cX10_digest 107 = .ok (.aload_n 0, 1) := by decide +kernel
theorem dX10_digest_108 : decode cX10_digest 108 = .ok (.getfield 41, 3) := by decide +kernel
theorem dX10_digest_111 : decode cX10_digest 111 = .ok (.iload_n 1, 1) := by decide +kernel
theorem dX10_digest_112 : decode cX10_digest 112 = .ok (.iaload, 1) := by decide +kernel
theorem dX10_digest_113 : decode cX10_digest 113 = .ok (.i2l, 1) := by decide +kernel
theorem dX10_digest_114 : decode cX10_digest 114 = .ok (.invokevirtual 252, 3) := by decide +kernel
theorem dX10_digest_117 : decode cX10_digest 117 = .ok (.aload_n 0, 1) := by decide +kernel
theorem dX10_digest_118 : decode cX10_digest 118 = .ok (.aload_n 0, 1) := by decide +kernel
theorem dX10_digest_119 : decode cX10_digest 119 = .ok (.getfield 41, 3) := by decide +kernel
theorem dX10_digest_122 : decode cX10_digest 122 = .ok (.iload_n 1, 1) := by decide +kernel
theorem dX10_digest_123 : decode cX10_digest 123 = .ok (.iaload, 1) := by decide +kernel
theorem dX10_digest_124 : decode cX10_digest 124 = .ok (.aload_n 0, 1) := by decide +kernel
theorem dX10_digest_125 : decode cX10_digest 125 = .ok (.getfield 7, 3) := by decide +kernel
theorem dX10_digest_128 : decode cX10_digest 128 = .ok (.iload_n 1, 1) := by decide +kernel
theorem dX10_digest_129 : decode cX10_digest 129 = .ok (.iaload, 1) := by decide +kernel
theorem dX10_digest_130 : decode cX10_digest 130 = .ok (.isub, 1) := by decide +kernel
theorem dX10_digest_131 : decode cX10_digest 131 = .ok (.i2l, 1) := by decide +kernel
theorem dX10_digest_132 : decode cX10_digest 132 = .ok (.invokevirtual 252, 3) := by decide +kernel
theorem dX10_digest_135 : decode cX10_digest 135 = .ok (.aload_n 0, 1) := by decide +kernel
theorem dX10_digest_136 : decode cX10_digest 136 = .ok (.aload_n 0, 1) := by decide +kernel
theorem dX10_digest_137 : decode cX10_digest 137 = .ok (.iload_n 1, 1) := by decide +kernel
theorem dX10_digest_138 : decode cX10_digest 138 = .ok (.invokevirtual 230, 3) := by decide +kernel
theorem dX10_digest_141 : decode cX10_digest 141 = .ok (.i2l, 1) := by decide +kernel
theorem dX10_digest_142 : decode cX10_digest 142 = .ok (.invokevirtual 252, 3) := by decide +kernel
theorem dX10_digest_145 : decode cX10_digest 145 = .ok (.iinc 1 1, 3) := by decide +kernel
theorem dX10_digest_148 : decode cX10_digest 148 = .ok (.goto (-130), 3) := by decide +kernel
theorem dX10_digest_151 : decode cX10_digest 151 = .ok (.aload_n 0, 1) := by decide +kernel
theorem dX10_digest_152 : decode cX10_digest 152 = .ok (.aload_n 0, 1) := by decide +kernel
theorem dX10_digest_153 : decode cX10_digest 153 = .ok (.invokevirtual 123, 3) := by decide +kernel
theorem dX10_digest_156 : decode cX10_digest 156 = .ok (.i2l, 1) := by decide +kernel
theorem dX10_digest_157 : decode cX10_digest 157 = .ok (.invokevirtual 252, 3) := by decide +kernel
theorem dX10_digest_160 : decode cX10_digest 160 = .ok (.aload_n 0, 1) := by decide +kernel
theorem dX10_digest_161 : decode cX10_digest 161 = .ok (.aload_n 0, 1) := by decide +kernel
theorem dX10_digest_162 : decode cX10_digest 162 = .ok (.invokevirtual 126, 3) := by decide +kernel
theorem dX10_digest_165 : decode cX10_digest 165 = .ok (.i2l, 1) := by decide +kernel
theorem dX10_digest_166 : decode cX10_digest 166 = .ok (.invokevirtual 252, 3) := by decide +kernel
theorem dX10_digest_169 : decode cX10_digest 169 = .ok (.aload_n 0, 1) := by decide +kernel
theorem dX10_digest_170 : decode cX10_digest 170 = .ok (.bipush 10, 2) := by decide +kernel
theorem dX10_digest_172 : decode cX10_digest 172 = .ok (.invokevirtual 258, 3) := by decide +kernel
theorem dX10_digest_175 : decode cX10_digest 175 = .ok (.aload_n 0, 1) := by decide +kernel
theorem dX10_digest_176 : decode cX10_digest 176 = .ok (.bipush 30, 2) := by decide +kernel
theorem dX10_digest_178 : decode cX10_digest 178 = .ok (.invokevirtual 258, 3) := by decide +kernel
theorem dX10_digest_181 : decode cX10_digest 181 = .ok (.aload_n 0, 1) := by decide +kernel
theorem dX10_digest_182 : decode cX10_digest 182 = .ok (.bipush 50, 2) := by decide +kernel
theorem dX10_digest_184 : decode cX10_digest 184 = .ok (.invokevirtual 258, 3) := by decide +kernel
theorem dX10_digest_187 : decode cX10_digest 187 = .ok (.aload_n 0, 1) := by decide +kernel
theorem dX10_digest_188 : decode cX10_digest 188 = .ok (.bipush 70, 2) := by decide +kernel
theorem dX10_digest_190 : decode cX10_digest 190 = .ok (.invokevirtual 258, 3) := by decide +kernel
theorem dX10_digest_193 : decode cX10_digest 193 = .ok (.aload_n 0, 1) := by decide +kernel
theorem dX10_digest_194 : decode cX10_digest 194 = .ok (.aload_n 0, 1) := by decide +kernel
theorem dX10_digest_195 : decode cX10_digest 195 = .ok (.invokevirtual 196, 3) := by decide +kernel
theorem dX10_digest_198 : decode cX10_digest 198 = .ok (.i2l, 1) := by decide +kernel
theorem dX10_digest_199 : decode cX10_digest 199 = .ok (.invokevirtual 252, 3) := by decide +kernel
theorem dX10_digest_202 : decode cX10_digest 202 = .ok (.aload_n 0, 1) := by decide +kernel
theorem dX10_digest_203 : decode cX10_digest 203 = .ok (.aload_n 0, 1) := by decide +kernel
theorem dX10_digest_204 : decode cX10_digest 204 = .ok (.invokevirtual 199, 3) := by decide +kernel
theorem dX10_digest_207 : decode cX10_digest 207 = .ok (.i2l, 1) := by decide +kernel
theorem dX10_digest_208 : decode cX10_digest 208 = .ok (.invokevirtual 252, 3) := by decide +kernel
theorem dX10_digest_211 : decode cX10_digest 211 = .ok (.aload_n 0, 1) := by decide +kernel
theorem dX10_digest_212 : decode cX10_digest 212 = .ok (.aload_n 0, 1) := by decide +kernel
theorem dX10_digest_213 : decode cX10_digest 213 = .ok (.invokevirtual 211, 3) := by decide +kernel
theorem dX10_digest_216 : decode cX10_digest 216 = .ok (.i2l, 1) := by decide +kernel
theorem dX10_digest_217 : decode cX10_digest 217 = .ok (.invokevirtual 252, 3) := by decide +kernel
theorem dX10_digest_220 : decode cX10_digest 220 = .ok (.aload_n 0, 1) := by decide +kernel
theorem dX10_digest_221 : decode cX10_digest 221 = .ok (.aload_n 0, 1) := by decide +kernel
theorem dX10_digest_222 : decode cX10_digest 222 = .ok (.invokevirtual 214, 3) := by decide +kernel
theorem dX10_digest_225 : decode cX10_digest 225 = .ok (.i2l, 1) := by decide +kernel
theorem dX10_digest_226 : decode cX10_digest 226 = .ok (.invokevirtual 252, 3) := by decide +kernel
theorem dX10_digest_229 : decode cX10_digest 229 = .ok (.aload_n 0, 1) := by decide +kernel
theorem dX10_digest_230 : decode cX10_digest 230 = .ok (.aload_n 0, 1) := by decide +kernel
theorem dX10_digest_231 : decode cX10_digest 231 = .ok (.invokevirtual 233, 3) := by decide +kernel
theorem dX10_digest_234 : decode cX10_digest 234 = .ok (.i2l, 1) := by decide +kernel
theorem dX10_digest_235 : decode cX10_digest 235 = .ok (.invokevirtual 252, 3) := by decide +kernel
theorem dX10_digest_238 : decode cX10_digest 238 = .ok (.aload_n 0, 1) := by decide +kernel
theorem dX10_digest_239 : decode cX10_digest 239 = .ok (.aload_n 0, 1) := by decide +kernel
theorem dX10_digest_240 : decode cX10_digest 240 = .ok (.getfield 52, 3) := by decide +kernel
theorem dX10_digest_243 : decode cX10_digest 243 = .ok (.i2l, 1) := by decide +kernel
theorem dX10_digest_244 : decode cX10_digest 244 = .ok (.invokevirtual 252, 3) := by decide +kernel
theorem dX10_digest_247 : decode cX10_digest 247 = .ok (.aload_n 0, 1) := by decide +kernel
theorem dX10_digest_248 : decode cX10_digest 248 = .ok (.aload_n 0, 1) := by decide +kernel
theorem dX10_digest_249 : decode cX10_digest 249 = .ok (.invokevirtual 238, 3) := by decide +kernel
theorem dX10_digest_252 : decode cX10_digest 252 = .ok (.bipush 52, 2) := by decide +kernel
theorem dX10_digest_254 : decode cX10_digest 254 = .ok (.sipush 1023, 3) := by decide +kernel
theorem dX10_digest_257 : decode cX10_digest 257 = .ok (.invokestatic 261, 3) := by decide +kernel
theorem dX10_digest_260 : decode cX10_digest 260 = .ok (.invokevirtual 252, 3) := by decide +kernel
theorem dX10_digest_263 : decode cX10_digest 263 = .ok (.aload_n 0, 1) := by decide +kernel
theorem dX10_digest_264 : decode cX10_digest 264 = .ok (.aload_n 0, 1) := by decide +kernel
theorem dX10_digest_265 : decode cX10_digest 265 = .ok (.getfield 19, 3) := by decide +kernel
theorem dX10_digest_268 : decode cX10_digest 268 = .ok (.iconst 0, 1) := by decide +kernel
theorem dX10_digest_269 : decode cX10_digest 269 = .ok (.baload, 1) := by decide +kernel
theorem dX10_digest_270 : decode cX10_digest 270 = .ok (.ifCond .eq 7, 3) := by decide +kernel
theorem dX10_digest_273 : decode cX10_digest 273 = .ok (.lconst 1, 1) := by decide +kernel
theorem dX10_digest_274 : decode cX10_digest 274 = .ok (.goto 4, 3) := by decide +kernel
theorem dX10_digest_277 : decode cX10_digest 277 = .ok (.lconst 0, 1) := by decide +kernel
theorem dX10_digest_278 : decode cX10_digest 278 = .ok (.invokevirtual 252, 3) := by decide +kernel
theorem dX10_digest_281 : decode cX10_digest 281 = .ok (.aload_n 0, 1) := by decide +kernel
theorem dX10_digest_282 : decode cX10_digest 282 = .ok (.aload_n 0, 1) := by decide +kernel
theorem dX10_digest_283 : decode cX10_digest 283 = .ok (.getfield 19, 3) := by decide +kernel
theorem dX10_digest_286 : decode cX10_digest 286 = .ok (.iconst 1, 1) := by decide +kernel
theorem dX10_digest_287 : decode cX10_digest 287 = .ok (.baload, 1) := by decide +kernel
theorem dX10_digest_288 : decode cX10_digest 288 = .ok (.ifCond .eq 7, 3) := by decide +kernel
theorem dX10_digest_291 : decode cX10_digest 291 = .ok (.lconst 1, 1) := by decide +kernel
theorem dX10_digest_292 : decode cX10_digest 292 = .ok (.goto 4, 3) := by decide +kernel
theorem dX10_digest_295 : decode cX10_digest 295 = .ok (.lconst 0, 1) := by decide +kernel
theorem dX10_digest_296 : decode cX10_digest 296 = .ok (.invokevirtual 252, 3) := by decide +kernel
theorem dX10_digest_299 : decode cX10_digest 299 = .ok (.aload_n 0, 1) := by decide +kernel
theorem dX10_digest_300 : decode cX10_digest 300 = .ok (.aload_n 0, 1) := by decide +kernel
theorem dX10_digest_301 : decode cX10_digest 301 = .ok (.getfield 96, 3) := by decide +kernel
theorem dX10_digest_304 : decode cX10_digest 304 = .ok (.i2l, 1) := by decide +kernel
theorem dX10_digest_305 : decode cX10_digest 305 = .ok (.invokevirtual 252, 3) := by decide +kernel
theorem dX10_digest_308 : decode cX10_digest 308 = .ok (.iconst 0, 1) := by decide +kernel
theorem dX10_digest_309 : decode cX10_digest 309 = .ok (.istore_n 1, 1) := by decide +kernel
theorem dX10_digest_310 : decode cX10_digest 310 = .ok (.iload_n 1, 1) := by decide +kernel
theorem dX10_digest_311 : decode cX10_digest 311 = .ok (.aload_n 0, 1) := by decide +kernel
theorem dX10_digest_312 : decode cX10_digest 312 = .ok (.getfield 96, 3) := by decide +kernel
theorem dX10_digest_315 : decode cX10_digest 315 = .ok (.if_icmp .ge 20, 3) := by decide +kernel
theorem dX10_digest_318 : decode cX10_digest 318 = .ok (.aload_n 0, 1) := by decide +kernel
theorem dX10_digest_319 : decode cX10_digest 319 = .ok (.aload_n 0, 1) := by decide +kernel
theorem dX10_digest_320 : decode cX10_digest 320 = .ok (.getfield 23, 3) := by decide +kernel
theorem dX10_digest_323 : decode cX10_digest 323 = .ok (.iload_n 1, 1) := by decide +kernel
theorem dX10_digest_324 : decode cX10_digest 324 = .ok (.iaload, 1) := by decide +kernel
theorem dX10_digest_325 : decode cX10_digest 325 = .ok (.i2l, 1) := by decide +kernel
theorem dX10_digest_326 : decode cX10_digest 326 = .ok (.invokevirtual 252, 3) := by decide +kernel
theorem dX10_digest_329 : decode cX10_digest 329 = .ok (.iinc 1 1, 3) := by decide +kernel
theorem dX10_digest_332 : decode cX10_digest 332 = .ok (.goto (-22), 3) := by decide +kernel
theorem dX10_digest_335 : decode cX10_digest 335 = .ok (.aload_n 0, 1) := by decide +kernel
theorem dX10_digest_336 : decode cX10_digest 336 = .ok (.getfield 248, 3) := by decide +kernel
theorem dX10_digest_339 : decode cX10_digest 339 = .ok (.lreturn, 1) := by decide +kernel
